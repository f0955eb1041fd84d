theorem dX9_isPlace_0 : decode cX9_isPlace 0 = .ok (.iload_n 0, 1) := by decide +kernel
theorem dX9_isPlace_1 : decode cX9_isPlace 1 = .ok (.ifCond .lt 13, 3) := by decide +kernel
theorem dX9_isPlace_4 : decode cX9_isPlace 4 = .ok (.iload_n 0, 1) := by decide +kernel
theorem dX9_isPlace_5 : decode cX9_isPlace 5 = .ok (.bipush 20, 2) := by decide +kernel
theorem dX9_isPlace_7 : decode cX9_isPlace 7 = .ok (.if_icmp .ge 7, 3) := by decide +kernel
theorem dX9_isPlace_10 : decode cX9_isPlace 10 = .ok (.iconst 1, 1) := by decide +kernel
theorem dX9_isPlace_11 : decode cX9_isPlace 11 = .ok (.goto 4, 3) := by decide +kernel
theorem dX9_isPlace_14 : decode cX9_isPlace 14 = .ok (.iconst 0, 1) := by decide +kernel
theorem dX9_isPlace_15 : decode cX9_isPlace 15 = .ok (.ireturn, 1) := by decide +kernel
noncomputable def f_X9_isPlace (M : ZMem) (x0 : Int32) : Option Int32 := if x0 < (zI 0) then some (zI 0) else if (zI 20) ≤ x0 then some (zI 0) else some (zI 1)
set_option maxRecDepth 100000 in
set_option maxHeartbeats 4000000 in
theorem c_X9_isPlace {ly : List ZEnt} (E : ZEv) (M : ZMem) (x0 : Int32) (K : Int32 → Prop) (hk : zOk (f_X9_isPlace M x0) K) : zCon ly E yX9_isPlace cX9_isPlace 1 (some .boolean) 0 [.int x0] M (zRp M K) := by
  refine zcon_of (L0 := [(0, .int x0)]) (by decide) rfl (Nat.le_of_ble_eq_true rfl) (fun G h => ?_)
  have h : zRu ly E G (zRp M K) cX9_isPlace RX9 1 (some .boolean) 0 := h
  unfold f_X9_isPlace at hk
  refine zr_iload_n h dX9_isPlace_0 0 rfl rfl ?_
  refine zr_if_lt (tgt := 14) h dX9_isPlace_1 (by decide) (fun c => ?_) (fun c => ?_)
  · have hk := zOk_t c hk
    refine zr_iconst (v := (zI 0)) h dX9_isPlace_14 rfl ?_
    have hk := zOk_some hk
    exact zr_zret h dX9_isPlace_15 (by decide) ⟨rfl, _, rfl, hk⟩
  · have hk := zOk_f c hk
    refine zr_iload_n h dX9_isPlace_4 0 rfl rfl ?_
    refine zr_bipush (v := (zI 20)) h dX9_isPlace_5 (by decide) ?_
    refine zr_icmp_ge (tgt := 14) h dX9_isPlace_7 (by decide) (fun c => ?_) (fun c => ?_)
    · have hk := zOk_t c hk
      refine zr_iconst (v := (zI 0)) h dX9_isPlace_14 rfl ?_
      have hk := zOk_some hk
      exact zr_zret h dX9_isPlace_15 (by decide) ⟨rfl, _, rfl, hk⟩
    · have hk := zOk_f c hk
      refine zr_iconst (v := (zI 1)) h dX9_isPlace_10 rfl ?_
      refine zr_goto (tgt := 15) h dX9_isPlace_11 (by decide) ?_
      have hk := zOk_some hk
      exact zr_zret h dX9_isPlace_15 (by decide) ⟨rfl, _, rfl, hk⟩
theorem dX9_bothKnown_0 : decode cX9_bothKnown 0 = .ok (.iload_n 1, 1) := by decide +kernel
theorem dX9_bothKnown_1 : decode cX9_bothKnown 1 = .ok (.invokestatic 79, 3) := by decide +kernel
theorem dX9_bothKnown_4 : decode cX9_bothKnown 4 = .ok (.ifCond .eq 27, 3) := by decide +kernel
theorem dX9_bothKnown_7 : decode cX9_bothKnown 7 = .ok (.aload_n 0, 1) := by decide +kernel
theorem dX9_bothKnown_8 : decode cX9_bothKnown 8 = .ok (.getfield 9, 3) := by decide +kernel
theorem dX9_bothKnown_11 : decode cX9_bothKnown 11 = .ok (.iload_n 1, 1) := by decide +kernel
theorem dX9_bothKnown_12 : decode cX9_bothKnown 12 = .ok (.iaload, 1) := by decide +kernel
theorem dX9_bothKnown_13 : decode cX9_bothKnown 13 = .ok (.iconst (-1), 1) := by decide +kernel
theorem dX9_bothKnown_14 : decode cX9_bothKnown 14 = .ok (.if_icmp .eq 17, 3) := by decide +kernel
theorem dX9_bothKnown_17 : decode cX9_bothKnown 17 = .ok (.aload_n 0, 1) := by decide +kernel
theorem dX9_bothKnown_18 : decode cX9_bothKnown 18 = .ok (.getfield 15, 3) := by decide +kernel
theorem dX9_bothKnown_21 : decode cX9_bothKnown 21 = .ok (.iload_n 1, 1) := by decide +kernel
theorem dX9_bothKnown_22 : decode cX9_bothKnown 22 = .ok (.iaload, 1) := by decide +kernel
theorem dX9_bothKnown_23 : decode cX9_bothKnown 23 = .ok (.iconst (-1), 1) := by decide +kernel
theorem dX9_bothKnown_24 : decode cX9_bothKnown 24 = .ok (.if_icmp .eq 7, 3) := by decide +kernel
theorem dX9_bothKnown_27 : decode cX9_bothKnown 27 = .ok (.iconst 1, 1) := by decide +kernel
theorem dX9_bothKnown_28 : decode cX9_bothKnown 28 = .ok (.goto 4, 3) := by decide +kernel
theorem dX9_bothKnown_31 : decode cX9_bothKnown 31 = .ok (.iconst 0, 1) := by decide +kernel
theorem dX9_bothKnown_32 : decode cX9_bothKnown 32 = .ok (.ireturn, 1) := by decide +kernel
noncomputable def f_X9_bothKnown (M : ZMem) (x1 : Int32) : Option Int32 := zbind (f_X9_isPlace M x1) (fun r_1 => if r_1 = (zI 0) then some (zI 0) else zchk (zin x1 20) (if (M.1 50 (zix x1)) = (zI (-1)) then some (zI 0) else zchk (zin x1 20) (if (M.1 51 (zix x1)) = (zI (-1)) then some (zI 0) else some (zI 1))))
set_option maxRecDepth 100000 in
set_option maxHeartbeats 4000000 in
theorem c_X9_bothKnown (E : ZEv) (M : ZMem) (x1 : Int32) (K : Int32 → Prop) (hk : zOk (f_X9_bothKnown M x1) K) : zCon lyC E yX9_bothKnown cX9_bothKnown 2 (some .boolean) 1 [zrf E 49, .int x1] M (zRp M K) := by
  refine zcon_of (L0 := [(0, zrf E 49), (1, .int x1)]) (by decide) rfl (Nat.le_of_ble_eq_true rfl) (fun G h => ?_)
  have h : zRu lyC E G (zRp M K) cX9_bothKnown RX9 2 (some .boolean) 1 := h
  unfold f_X9_bothKnown at hk
  refine zr_iload_n h dX9_bothKnown_0 1 rfl rfl ?_
  refine zr_callSp h zcw_X9_79 (by decide) (c_X9_isPlace E M x1 _ (zOk_bind hk)) rfl rfl (Nat.le_of_ble_eq_true rfl) dX9_bothKnown_1 (fun r_1 hk => ?_)
  refine zr_if_eq (tgt := 31) h dX9_bothKnown_4 (by decide) (fun c => ?_) (fun c => ?_)
  · have hk := zOk_t c hk
    refine zr_iconst (v := (zI 0)) h dX9_bothKnown_31 rfl ?_
    have hk := zOk_some hk
    exact zr_zret h dX9_bothKnown_32 (by decide) ⟨rfl, _, rfl, hk⟩
  · have hk := zOk_f c hk
    refine zr_aload_n h dX9_bothKnown_7 0 rfl rfl ?_
    refine zr_getR h zfo_X9_9 lC_49 rfl dX9_bothKnown_8 ?_
    refine zr_iload_n h dX9_bothKnown_11 1 rfl rfl ?_
    have hb := zOk_chk hk
    have hk := hb.2
    refine zr_iald h lC_50 hb.1 dX9_bothKnown_12 ?_
    refine zr_iconst (v := (zI (-1))) h dX9_bothKnown_13 rfl ?_
    refine zr_icmp_eq (tgt := 31) h dX9_bothKnown_14 (by decide) (fun c => ?_) (fun c => ?_)
    · have hk := zOk_t c hk
      refine zr_iconst (v := (zI 0)) h dX9_bothKnown_31 rfl ?_
      have hk := zOk_some hk
      exact zr_zret h dX9_bothKnown_32 (by decide) ⟨rfl, _, rfl, hk⟩
    · have hk := zOk_f c hk
      refine zr_aload_n h dX9_bothKnown_17 0 rfl rfl ?_
      refine zr_getR h zfo_X9_15 lC_49 rfl dX9_bothKnown_18 ?_
      refine zr_iload_n h dX9_bothKnown_21 1 rfl rfl ?_
      have hb := zOk_chk hk
      have hk := hb.2
      refine zr_iald h lC_51 hb.1 dX9_bothKnown_22 ?_
      refine zr_iconst (v := (zI (-1))) h dX9_bothKnown_23 rfl ?_
      refine zr_icmp_eq (tgt := 31) h dX9_bothKnown_24 (by decide) (fun c => ?_) (fun c => ?_)
      · have hk := zOk_t c hk
        refine zr_iconst (v := (zI 0)) h dX9_bothKnown_31 rfl ?_
        have hk := zOk_some hk
        exact zr_zret h dX9_bothKnown_32 (by decide) ⟨rfl, _, rfl, hk⟩
      · have hk := zOk_f c hk
        refine zr_iconst (v := (zI 1)) h dX9_bothKnown_27 rfl ?_
        refine zr_goto (tgt := 32) h dX9_bothKnown_28 (by decide) ?_
        have hk := zOk_some hk
        exact zr_zret h dX9_bothKnown_32 (by decide) ⟨rfl, _, rfl, hk⟩
theorem dX9_consonantOf_0 : decode cX9_consonantOf 0 = .ok (.iload_n 1, 1) := by decide +kernel
theorem dX9_consonantOf_1 : decode cX9_consonantOf 1 = .ok (.invokestatic 79, 3) := by decide +kernel
theorem dX9_consonantOf_4 : decode cX9_consonantOf 4 = .ok (.ifCond .eq 12, 3) := by decide +kernel
theorem dX9_consonantOf_7 : decode cX9_consonantOf 7 = .ok (.aload_n 0, 1) := by decide +kernel
theorem dX9_consonantOf_8 : decode cX9_consonantOf 8 = .ok (.getfield 9, 3) := by decide +kernel
theorem dX9_consonantOf_11 : decode cX9_consonantOf 11 = .ok (.iload_n 1, 1) := by decide +kernel
theorem dX9_consonantOf_12 : decode cX9_consonantOf 12 = .ok (.iaload, 1) := by decide +kernel
theorem dX9_consonantOf_13 : decode cX9_consonantOf 13 = .ok (.goto 4, 3) := by decide +kernel
theorem dX9_consonantOf_16 : decode cX9_consonantOf 16 = .ok (.iconst (-1), 1) := by decide +kernel
theorem dX9_consonantOf_17 : decode cX9_consonantOf 17 = .ok (.ireturn, 1) := by decide +kernel
noncomputable def f_X9_consonantOf (M : ZMem) (x1 : Int32) : Option Int32 := zbind (f_X9_isPlace M x1) (fun r_1 => if r_1 = (zI 0) then some (zI (-1)) else zchk (zin x1 20) (some (M.1 50 (zix x1))))
set_option maxRecDepth 100000 in
set_option maxHeartbeats 4000000 in
theorem c_X9_consonantOf (E : ZEv) (M : ZMem) (x1 : Int32) (K : Int32 → Prop) (hk : zOk (f_X9_consonantOf M x1) K) : zCon lyC E yX9_consonantOf cX9_consonantOf 2 (some .int) 1 [zrf E 49, .int x1] M (zRp M K) := by
  refine zcon_of (L0 := [(0, zrf E 49), (1, .int x1)]) (by decide) rfl (Nat.le_of_ble_eq_true rfl) (fun G h => ?_)
  have h : zRu lyC E G (zRp M K) cX9_consonantOf RX9 2 (some .int) 1 := h
  unfold f_X9_consonantOf at hk
  refine zr_iload_n h dX9_consonantOf_0 1 rfl rfl ?_
  refine zr_callSp h zcw_X9_79 (by decide) (c_X9_isPlace E M x1 _ (zOk_bind hk)) rfl rfl (Nat.le_of_ble_eq_true rfl) dX9_consonantOf_1 (fun r_1 hk => ?_)
  refine zr_if_eq (tgt := 16) h dX9_consonantOf_4 (by decide) (fun c => ?_) (fun c => ?_)
  · have hk := zOk_t c hk
    refine zr_iconst (v := (zI (-1))) h dX9_consonantOf_16 rfl ?_
    have hk := zOk_some hk
    exact zr_iret h dX9_consonantOf_17 ⟨rfl, _, rfl, hk⟩
  · have hk := zOk_f c hk
    refine zr_aload_n h dX9_consonantOf_7 0 rfl rfl ?_
    refine zr_getR h zfo_X9_9 lC_49 rfl dX9_consonantOf_8 ?_
    refine zr_iload_n h dX9_consonantOf_11 1 rfl rfl ?_
    have hb := zOk_chk hk
    have hk := hb.2
    refine zr_iald h lC_50 hb.1 dX9_consonantOf_12 ?_
    refine zr_goto (tgt := 17) h dX9_consonantOf_13 (by decide) ?_
    have hk := zOk_some hk
    exact zr_iret h dX9_consonantOf_17 ⟨rfl, _, rfl, hk⟩
theorem dX9_vowelOf_0 : decode cX9_vowelOf 0 = .ok (.iload_n 1, 1) := by decide +kernel
theorem dX9_vowelOf_1 : decode cX9_vowelOf 1 = .ok (.invokestatic 79, 3) := by decide +kernel
theorem dX9_vowelOf_4 : decode cX9_vowelOf 4 = .ok (.ifCond .eq 12, 3) := by decide +kernel
theorem dX9_vowelOf_7 : decode cX9_vowelOf 7 = .ok (.aload_n 0, 1) := by decide +kernel
theorem dX9_vowelOf_8 : decode cX9_vowelOf 8 = .ok (.getfield 15, 3) := by decide +kernel
theorem dX9_vowelOf_11 : decode cX9_vowelOf 11 = .ok (.iload_n 1, 1) := by decide +kernel
theorem dX9_vowelOf_12 : decode cX9_vowelOf 12 = .ok (.iaload, 1) := by decide +kernel
theorem dX9_vowelOf_13 : decode cX9_vowelOf 13 = .ok (.goto 4, 3) := by decide +kernel
theorem dX9_vowelOf_16 : decode cX9_vowelOf 16 = .ok (.iconst (-1), 1) := by decide +kernel
theorem dX9_vowelOf_17 : decode cX9_vowelOf 17 = .ok (.ireturn, 1) := by decide +kernel
noncomputable def f_X9_vowelOf (M : ZMem) (x1 : Int32) : Option Int32 := zbind (f_X9_isPlace M x1) (fun r_1 => if r_1 = (zI 0) then some (zI (-1)) else zchk (zin x1 20) (some (M.1 51 (zix x1))))
set_option maxRecDepth 100000 in
set_option maxHeartbeats 4000000 in
theorem c_X9_vowelOf (E : ZEv) (M : ZMem) (x1 : Int32) (K : Int32 → Prop) (hk : zOk (f_X9_vowelOf M x1) K) : zCon lyC E yX9_vowelOf cX9_vowelOf 2 (some .int) 1 [zrf E 49, .int x1] M (zRp M K) := by
  refine zcon_of (L0 := [(0, zrf E 49), (1, .int x1)]) (by decide) rfl (Nat.le_of_ble_eq_true rfl) (fun G h => ?_)
  have h : zRu lyC E G (zRp M K) cX9_vowelOf RX9 2 (some .int) 1 := h
  unfold f_X9_vowelOf at hk
  refine zr_iload_n h dX9_vowelOf_0 1 rfl rfl ?_
  refine zr_callSp h zcw_X9_79 (by decide) (c_X9_isPlace E M x1 _ (zOk_bind hk)) rfl rfl (Nat.le_of_ble_eq_true rfl) dX9_vowelOf_1 (fun r_1 hk => ?_)
  refine zr_if_eq (tgt := 16) h dX9_vowelOf_4 (by decide) (fun c => ?_) (fun c => ?_)
  · have hk := zOk_t c hk
    refine zr_iconst (v := (zI (-1))) h dX9_vowelOf_16 rfl ?_
    have hk := zOk_some hk
    exact zr_iret h dX9_vowelOf_17 ⟨rfl, _, rfl, hk⟩
  · have hk := zOk_f c hk
    refine zr_aload_n h dX9_vowelOf_7 0 rfl rfl ?_
    refine zr_getR h zfo_X9_15 lC_49 rfl dX9_vowelOf_8 ?_
    refine zr_iload_n h dX9_vowelOf_11 1 rfl rfl ?_
    have hb := zOk_chk hk
    have hk := hb.2
    refine zr_iald h lC_51 hb.1 dX9_vowelOf_12 ?_
    refine zr_goto (tgt := 17) h dX9_vowelOf_13 (by decide) ?_
    have hk := zOk_some hk
    exact zr_iret h dX9_vowelOf_17 ⟨rfl, _, rfl, hk⟩
theorem dX3_takeKnown_0 : decode cX3_takeKnown 0 = .ok (.iconst 0, 1) := by decide +kernel
theorem dX3_takeKnown_1 : decode cX3_takeKnown 1 = .ok (.istore_n 1, 1) := by decide +kernel
theorem dX3_takeKnown_2 : decode cX3_takeKnown 2 = .ok (.iload_n 1, 1) := by decide +kernel
theorem dX3_takeKnown_3 : decode cX3_takeKnown 3 = .ok (.bipush 20, 2) := by decide +kernel
theorem dX3_takeKnown_5 : decode cX3_takeKnown 5 = .ok (.if_icmp .ge 37, 3) := by decide +kernel
theorem dX3_takeKnown_8 : decode cX3_takeKnown 8 = .ok (.aload_n 0, 1) := by decide +kernel
theorem dX3_takeKnown_9 : decode cX3_takeKnown 9 = .ok (.getfield 15, 3) := by decide +kernel
theorem dX3_takeKnown_12 : decode cX3_takeKnown 12 = .ok (.iload_n 1, 1) := by decide +kernel
theorem dX3_takeKnown_13 : decode cX3_takeKnown 13 = .ok (.aload_n 0, 1) := by decide +kernel
theorem dX3_takeKnown_14 : decode cX3_takeKnown 14 = .ok (.getfield 33, 3) := by decide +kernel
theorem dX3_takeKnown_17 : decode cX3_takeKnown 17 = .ok (.iload_n 1, 1) := by decide +kernel
theorem dX3_takeKnown_18 : decode cX3_takeKnown 18 = .ok (.invokevirtual 78, 3) := by decide +kernel
theorem dX3_takeKnown_21 : decode cX3_takeKnown 21 = .ok (.iastore, 1) := by decide +kernel
theorem dX3_takeKnown_22 : decode cX3_takeKnown 22 = .ok (.aload_n 0, 1) := by decide +kernel
theorem dX3_takeKnown_23 : decode cX3_takeKnown 23 = .ok (.getfield 19, 3) := by decide +kernel
theorem dX3_takeKnown_26 : decode cX3_takeKnown 26 = .ok (.iload_n 1, 1) := by decide +kernel
theorem dX3_takeKnown_27 : decode cX3_takeKnown 27 = .ok (.aload_n 0, 1) := by decide +kernel
theorem dX3_takeKnown_28 : decode cX3_takeKnown 28 = .ok (.getfield 33, 3) := by decide +kernel
theorem dX3_takeKnown_31 : decode cX3_takeKnown 31 = .ok (.iload_n 1, 1) := by decide +kernel
theorem dX3_takeKnown_32 : decode cX3_takeKnown 32 = .ok (.invokevirtual 82, 3) := by decide +kernel
theorem dX3_takeKnown_35 : decode cX3_takeKnown 35 = .ok (.iastore, 1) := by decide +kernel
theorem dX3_takeKnown_36 : decode cX3_takeKnown 36 = .ok (.iinc 1 1, 3) := by decide +kernel
theorem dX3_takeKnown_39 : decode cX3_takeKnown 39 = .ok (.goto (-37), 3) := by decide +kernel
theorem dX3_takeKnown_42 : decode cX3_takeKnown 42 = .ok (.return_, 1) := by decide +kernel
noncomputable def f_X3_takeKnown_L2 (s : (ZMem × Int32)) : Option ((ZMem × Int32) ⊕ (ZMem)) := if (zI 20) ≤ s.2 then some (.inr s.1) else zbind (f_X9_consonantOf s.1 s.2) (fun r_18 => zchk (zin s.2 20) (zbnd (zstI s.1 56 (zix s.2) r_18) (fun M_21 => zbind (f_X9_vowelOf M_21 s.2) (fun r_32 => zchk (zin s.2 20) (zbnd (zstI M_21 57 (zix s.2) r_32) (fun M_35 => zbnd (s.2 + (zI 1)) (fun x1_36 => some (.inl (M_35, x1_36)))))))))
set_option maxRecDepth 100000 in
set_option maxHeartbeats 4000000 in
theorem w_X3_takeKnown_L2 {E : ZEv} {G : ZG} {K : ZMem → Prop} (h : zRu lyC E G (zRv K) cX3_takeKnown RX3 2 none 2) (s : (ZMem × Int32)) (hk : zOk (zloop (f_X3_takeKnown_L2) s) (fun e => G e 42 [] [])) : G s.1 2 [(0, zrf E 54), (1, .int s.2)] [] := by
  refine zloop_walk (P := fun s => G s.1 2 [(0, zrf E 54), (1, .int s.2)] []) hk (fun s hk => ?_)
  unfold f_X3_takeKnown_L2 at hk
  refine zr_iload_n h dX3_takeKnown_2 1 rfl rfl ?_
  refine zr_bipush (v := (zI 20)) h dX3_takeKnown_3 (by decide) ?_
  refine zr_icmp_ge (tgt := 42) h dX3_takeKnown_5 (by decide) (fun c => ?_) (fun c => ?_)
  · have hk := zOk_t c hk
    have hk := zOk_some hk
    exact zr_weak h [] rfl hk
  · have hk := zOk_f c hk
    refine zr_aload_n h dX3_takeKnown_8 0 rfl rfl ?_
    refine zr_getR h zfo_X3_15 lC_54 rfl dX3_takeKnown_9 ?_
    refine zr_iload_n h dX3_takeKnown_12 1 rfl rfl ?_
    refine zr_aload_n h dX3_takeKnown_13 0 rfl rfl ?_
    refine zr_getR h zfo_X3_33 lC_54 rfl dX3_takeKnown_14 ?_
    refine zr_iload_n h dX3_takeKnown_17 1 rfl rfl ?_
    refine zr_callVp h lC_49 zcw_X3_78 (by decide) (c_X9_consonantOf E s.1 s.2 _ (zOk_bind hk)) rfl rfl (Nat.le_of_ble_eq_true rfl) dX3_takeKnown_18 (fun r_18 hk => ?_)
    have hb := zOk_chk hk
    have hk := hb.2
    refine zr_iast h lC_56 hb.1 dX3_takeKnown_21 ?_
    refine zr_mem (fun M_21 eM => ?_)
    have hk := zOk_bnd eM hk
    refine zr_aload_n h dX3_takeKnown_22 0 rfl rfl ?_
    refine zr_getR h zfo_X3_19 lC_54 rfl dX3_takeKnown_23 ?_
    refine zr_iload_n h dX3_takeKnown_26 1 rfl rfl ?_
    refine zr_aload_n h dX3_takeKnown_27 0 rfl rfl ?_
    refine zr_getR h zfo_X3_33 lC_54 rfl dX3_takeKnown_28 ?_
    refine zr_iload_n h dX3_takeKnown_31 1 rfl rfl ?_
    refine zr_callVp h lC_49 zcw_X3_82 (by decide) (c_X9_vowelOf E M_21 s.2 _ (zOk_bind hk)) rfl rfl (Nat.le_of_ble_eq_true rfl) dX3_takeKnown_32 (fun r_32 hk => ?_)
    have hb := zOk_chk hk
    have hk := hb.2
    refine zr_iast h lC_57 hb.1 dX3_takeKnown_35 ?_
    refine zr_mem (fun M_35 eM => ?_)
    have hk := zOk_bnd eM hk
    obtain ⟨x1_36, ex⟩ : ∃ y : Int32, y = s.2 + (zI 1) := ⟨_, rfl⟩
    have hk := zOk_bnd ex hk
    refine zr_iinc (v := x1_36) (L' := [(0, zrf E 54), (1, .int x1_36)]) h 1 [1, 0] dX3_takeKnown_36 rfl (by rw [ex]; rfl) (by decide) rfl ?_
    refine zr_goto (tgt := 2) h dX3_takeKnown_39 (by decide) ?_
    have hk := zOk_some hk
    exact zr_weak h [0, 1] rfl hk
noncomputable def f_X3_takeKnown (M : ZMem) : Option ZMem := zbind (zloop (f_X3_takeKnown_L2) (M, (zI 0))) (fun e2 => some e2)
set_option maxRecDepth 100000 in
set_option maxHeartbeats 4000000 in
theorem c_X3_takeKnown (E : ZEv) (M : ZMem) (K : ZMem → Prop) (hk : zOk (f_X3_takeKnown M) K) : zCon lyC E yX3_takeKnown cX3_takeKnown 2 none 2 [zrf E 54] M (zRv K) := by
  refine zcon_of (L0 := [(0, zrf E 54)]) (by decide) rfl (Nat.le_of_ble_eq_true rfl) (fun G h => ?_)
  have h : zRu lyC E G (zRv K) cX3_takeKnown RX3 2 none 2 := h
  unfold f_X3_takeKnown at hk
  refine zr_iconst (v := (zI 0)) h dX3_takeKnown_0 rfl ?_
  refine zr_istore_n (L' := [(0, zrf E 54), (1, .int (zI 0))]) h [1, 0] dX3_takeKnown_1 rfl (by decide) rfl ?_
  refine w_X3_takeKnown_L2 h (M, (zI 0)) (zOk_mono (zOk_bind hk) (fun e2 hk => ?_))
  have hk := zOk_some hk
  exact zr_vret h dX3_takeKnown_42 ⟨rfl, hk⟩
theorem dX3_isPlace_0 : decode cX3_isPlace 0 = .ok (.iload_n 0, 1) := by decide +kernel
theorem dX3_isPlace_1 : decode cX3_isPlace 1 = .ok (.ifCond .lt 22, 3) := by decide +kernel
theorem dX3_isPlace_4 : decode cX3_isPlace 4 = .ok (.iload_n 0, 1) := by decide +kernel
theorem dX3_isPlace_5 : decode cX3_isPlace 5 = .ok (.iconst 4, 1) := by decide +kernel
theorem dX3_isPlace_6 : decode cX3_isPlace 6 = .ok (.if_icmp .ge 17, 3) := by decide +kernel
theorem dX3_isPlace_9 : decode cX3_isPlace 9 = .ok (.iload_n 1, 1) := by decide +kernel
theorem dX3_isPlace_10 : decode cX3_isPlace 10 = .ok (.ifCond .lt 13, 3) := by decide +kernel
theorem dX3_isPlace_13 : decode cX3_isPlace 13 = .ok (.iload_n 1, 1) := by decide +kernel
theorem dX3_isPlace_14 : decode cX3_isPlace 14 = .ok (.bipush 120, 2) := by decide +kernel
theorem dX3_isPlace_16 : decode cX3_isPlace 16 = .ok (.if_icmp .ge 7, 3) := by decide +kernel
theorem dX3_isPlace_19 : decode cX3_isPlace 19 = .ok (.iconst 1, 1) := by decide +kernel
theorem dX3_isPlace_20 : decode cX3_isPlace 20 = .ok (.goto 4, 3) := by decide +kernel
theorem dX3_isPlace_23 : decode cX3_isPlace 23 = .ok (.iconst 0, 1) := by decide +kernel
theorem dX3_isPlace_24 : decode cX3_isPlace 24 = .ok (.ireturn, 1) := by decide +kernel
noncomputable def f_X3_isPlace (M : ZMem) (x0 : Int32) (x1 : Int32) : Option Int32 := if x0 < (zI 0) then some (zI 0) else if (zI 4) ≤ x0 then some (zI 0) else if x1 < (zI 0) then some (zI 0) else if (zI 120) ≤ x1 then some (zI 0) else some (zI 1)
set_option maxRecDepth 100000 in
set_option maxHeartbeats 4000000 in
theorem c_X3_isPlace {ly : List ZEnt} (E : ZEv) (M : ZMem) (x0 : Int32) (x1 : Int32) (K : Int32 → Prop) (hk : zOk (f_X3_isPlace M x0 x1) K) : zCon ly E yX3_isPlace cX3_isPlace 2 (some .boolean) 0 [.int x0, .int x1] M (zRp M K) := by
  refine zcon_of (L0 := [(0, .int x0), (1, .int x1)]) (by decide) rfl (Nat.le_of_ble_eq_true rfl) (fun G h => ?_)
  have h : zRu ly E G (zRp M K) cX3_isPlace RX3 2 (some .boolean) 0 := h
  unfold f_X3_isPlace at hk
  refine zr_iload_n h dX3_isPlace_0 0 rfl rfl ?_
  refine zr_if_lt (tgt := 23) h dX3_isPlace_1 (by decide) (fun c => ?_) (fun c => ?_)
  · have hk := zOk_t c hk
    refine zr_iconst (v := (zI 0)) h dX3_isPlace_23 rfl ?_
    have hk := zOk_some hk
    exact zr_zret h dX3_isPlace_24 (by decide) ⟨rfl, _, rfl, hk⟩
  · have hk := zOk_f c hk
    refine zr_iload_n h dX3_isPlace_4 0 rfl rfl ?_
    refine zr_iconst (v := (zI 4)) h dX3_isPlace_5 rfl ?_
    refine zr_icmp_ge (tgt := 23) h dX3_isPlace_6 (by decide) (fun c => ?_) (fun c => ?_)
    · have hk := zOk_t c hk
      refine zr_iconst (v := (zI 0)) h dX3_isPlace_23 rfl ?_
      have hk := zOk_some hk
      exact zr_zret h dX3_isPlace_24 (by decide) ⟨rfl, _, rfl, hk⟩
    · have hk := zOk_f c hk
      refine zr_iload_n h dX3_isPlace_9 1 rfl rfl ?_
      refine zr_if_lt (tgt := 23) h dX3_isPlace_10 (by decide) (fun c => ?_) (fun c => ?_)
      · have hk := zOk_t c hk
        refine zr_iconst (v := (zI 0)) h dX3_isPlace_23 rfl ?_
        have hk := zOk_some hk
        exact zr_zret h dX3_isPlace_24 (by decide) ⟨rfl, _, rfl, hk⟩
      · have hk := zOk_f c hk
        refine zr_iload_n h dX3_isPlace_13 1 rfl rfl ?_
        refine zr_bipush (v := (zI 120)) h dX3_isPlace_14 (by decide) ?_
        refine zr_icmp_ge (tgt := 23) h dX3_isPlace_16 (by decide) (fun c => ?_) (fun c => ?_)
        · have hk := zOk_t c hk
          refine zr_iconst (v := (zI 0)) h dX3_isPlace_23 rfl ?_
          have hk := zOk_some hk
          exact zr_zret h dX3_isPlace_24 (by decide) ⟨rfl, _, rfl, hk⟩
        · have hk := zOk_f c hk
          refine zr_iconst (v := (zI 1)) h dX3_isPlace_19 rfl ?_
          refine zr_goto (tgt := 24) h dX3_isPlace_20 (by decide) ?_
          have hk := zOk_some hk
          exact zr_zret h dX3_isPlace_24 (by decide) ⟨rfl, _, rfl, hk⟩
theorem dX3_mayBe_0 : decode cX3_mayBe 0 = .ok (.iload_n 0, 1) := by decide +kernel
theorem dX3_mayBe_1 : decode cX3_mayBe 1 = .ok (.iload_n 1, 1) := by decide +kernel
theorem dX3_mayBe_2 : decode cX3_mayBe 2 = .ok (.if_icmp .eq 12, 3) := by decide +kernel
theorem dX3_mayBe_5 : decode cX3_mayBe 5 = .ok (.iload_n 0, 1) := by decide +kernel
theorem dX3_mayBe_6 : decode cX3_mayBe 6 = .ok (.iconst (-1), 1) := by decide +kernel
theorem dX3_mayBe_7 : decode cX3_mayBe 7 = .ok (.if_icmp .ne 11, 3) := by decide +kernel
theorem dX3_mayBe_10 : decode cX3_mayBe 10 = .ok (.iload_n 2, 1) := by decide +kernel
theorem dX3_mayBe_11 : decode cX3_mayBe 11 = .ok (.ifCond .ne 7, 3) := by decide +kernel
theorem dX3_mayBe_14 : decode cX3_mayBe 14 = .ok (.iconst 1, 1) := by decide +kernel
theorem dX3_mayBe_15 : decode cX3_mayBe 15 = .ok (.goto 4, 3) := by decide +kernel
theorem dX3_mayBe_18 : decode cX3_mayBe 18 = .ok (.iconst 0, 1) := by decide +kernel
theorem dX3_mayBe_19 : decode cX3_mayBe 19 = .ok (.ireturn, 1) := by decide +kernel
noncomputable def f_X3_mayBe (M : ZMem) (x0 : Int32) (x1 : Int32) (x2 : Int32) : Option Int32 := if x0 = x1 then some (zI 1) else if x0 = (zI (-1)) then if x2 = (zI 0) then some (zI 1) else some (zI 0) else some (zI 0)
set_option maxRecDepth 100000 in
set_option maxHeartbeats 4000000 in
theorem c_X3_mayBe {ly : List ZEnt} (E : ZEv) (M : ZMem) (x0 : Int32) (x1 : Int32) (x2 : Int32) (K : Int32 → Prop) (hk : zOk (f_X3_mayBe M x0 x1 x2) K) : zCon ly E yX3_mayBe cX3_mayBe 3 (some .boolean) 0 [.int x0, .int x1, .int x2] M (zRp M K) := by
  refine zcon_of (L0 := [(0, .int x0), (1, .int x1), (2, .int x2)]) (by decide) rfl (Nat.le_of_ble_eq_true rfl) (fun G h => ?_)
  have h : zRu ly E G (zRp M K) cX3_mayBe RX3 3 (some .boolean) 0 := h
  unfold f_X3_mayBe at hk
  refine zr_iload_n h dX3_mayBe_0 0 rfl rfl ?_
  refine zr_iload_n h dX3_mayBe_1 1 rfl rfl ?_
  refine zr_icmp_eq (tgt := 14) h dX3_mayBe_2 (by decide) (fun c => ?_) (fun c => ?_)
  · have hk := zOk_t c hk
    refine zr_iconst (v := (zI 1)) h dX3_mayBe_14 rfl ?_
    refine zr_goto (tgt := 19) h dX3_mayBe_15 (by decide) ?_
    have hk := zOk_some hk
    exact zr_zret h dX3_mayBe_19 (by decide) ⟨rfl, _, rfl, hk⟩
  · have hk := zOk_f c hk
    refine zr_iload_n h dX3_mayBe_5 0 rfl rfl ?_
    refine zr_iconst (v := (zI (-1))) h dX3_mayBe_6 rfl ?_
    refine zr_icmp_ne (tgt := 18) h dX3_mayBe_7 (by decide) (fun c => ?_) (fun c => ?_)
    · have hk := zOk_t c hk
      refine zr_iload_n h dX3_mayBe_10 2 rfl rfl ?_
      refine zr_if_ne (tgt := 18) h dX3_mayBe_11 (by decide) (fun c => ?_) (fun c => ?_)
      · have hk := zOk_t c hk
        refine zr_iconst (v := (zI 1)) h dX3_mayBe_14 rfl ?_
        refine zr_goto (tgt := 19) h dX3_mayBe_15 (by decide) ?_
        have hk := zOk_some hk
        exact zr_zret h dX3_mayBe_19 (by decide) ⟨rfl, _, rfl, hk⟩
      · have hk := zOk_f c hk
        refine zr_iconst (v := (zI 0)) h dX3_mayBe_18 rfl ?_
        have hk := zOk_some hk
        exact zr_zret h dX3_mayBe_19 (by decide) ⟨rfl, _, rfl, hk⟩
    · have hk := zOk_f c hk
      refine zr_iconst (v := (zI 0)) h dX3_mayBe_18 rfl ?_
      have hk := zOk_some hk
      exact zr_zret h dX3_mayBe_19 (by decide) ⟨rfl, _, rfl, hk⟩
theorem dX3_agrees_0 : decode cX3_agrees 0 = .ok (.aload_n 0, 1) := by decide +kernel
theorem dX3_agrees_1 : decode cX3_agrees 1 = .ok (.getfield 29, 3) := by decide +kernel
theorem dX3_agrees_4 : decode cX3_agrees 4 = .ok (.iload_n 2, 1) := by decide +kernel
theorem dX3_agrees_5 : decode cX3_agrees 5 = .ok (.invokevirtual 85, 3) := by decide +kernel
theorem dX3_agrees_8 : decode cX3_agrees 8 = .ok (.aload_n 0, 1) := by decide +kernel
theorem dX3_agrees_9 : decode cX3_agrees 9 = .ok (.getfield 25, 3) := by decide +kernel
theorem dX3_agrees_12 : decode cX3_agrees 12 = .ok (.iload_n 1, 1) := by decide +kernel
theorem dX3_agrees_13 : decode cX3_agrees 13 = .ok (.invokevirtual 88, 3) := by decide +kernel
theorem dX3_agrees_16 : decode cX3_agrees 16 = .ok (.if_icmp .eq 5, 3) := by decide +kernel
theorem dX3_agrees_19 : decode cX3_agrees 19 = .ok (.iconst 0, 1) := by decide +kernel
theorem dX3_agrees_20 : decode cX3_agrees 20 = .ok (.ireturn, 1) := by decide +kernel
theorem dX3_agrees_21 : decode cX3_agrees 21 = .ok (.iconst 0, 1) := by decide +kernel
theorem dX3_agrees_22 : decode cX3_agrees 22 = .ok (.istore 4, 2) := by decide +kernel
theorem dX3_agrees_24 : decode cX3_agrees 24 = .ok (.iload 4, 2) := by decide +kernel
theorem dX3_agrees_26 : decode cX3_agrees 26 = .ok (.aload_n 0, 1) := by decide +kernel
theorem dX3_agrees_27 : decode cX3_agrees 27 = .ok (.getfield 25, 3) := by decide +kernel
theorem dX3_agrees_30 : decode cX3_agrees 30 = .ok (.iload_n 1, 1) := by decide +kernel
theorem dX3_agrees_31 : decode cX3_agrees 31 = .ok (.invokevirtual 88, 3) := by decide +kernel
theorem dX3_agrees_34 : decode cX3_agrees 34 = .ok (.if_icmp .ge 83, 3) := by decide +kernel
theorem dX3_agrees_37 : decode cX3_agrees 37 = .ok (.aload_n 0, 1) := by decide +kernel
theorem dX3_agrees_38 : decode cX3_agrees 38 = .ok (.getfield 29, 3) := by decide +kernel
theorem dX3_agrees_41 : decode cX3_agrees 41 = .ok (.iload_n 2, 1) := by decide +kernel
theorem dX3_agrees_42 : decode cX3_agrees 42 = .ok (.iload 4, 2) := by decide +kernel
theorem dX3_agrees_44 : decode cX3_agrees 44 = .ok (.invokevirtual 89, 3) := by decide +kernel
theorem dX3_agrees_47 : decode cX3_agrees 47 = .ok (.istore 5, 2) := by decide +kernel
theorem dX3_agrees_49 : decode cX3_agrees 49 = .ok (.aload_n 0, 1) := by decide +kernel
theorem dX3_agrees_50 : decode cX3_agrees 50 = .ok (.getfield 25, 3) := by decide +kernel
theorem dX3_agrees_53 : decode cX3_agrees 53 = .ok (.iload_n 1, 1) := by decide +kernel
theorem dX3_agrees_54 : decode cX3_agrees 54 = .ok (.iload 4, 2) := by decide +kernel
theorem dX3_agrees_56 : decode cX3_agrees 56 = .ok (.invokevirtual 93, 3) := by decide +kernel
theorem dX3_agrees_59 : decode cX3_agrees 59 = .ok (.istore 6, 2) := by decide +kernel
theorem dX3_agrees_61 : decode cX3_agrees 61 = .ok (.iload 5, 2) := by decide +kernel
theorem dX3_agrees_63 : decode cX3_agrees 63 = .ok (.ifCond .lt 46, 3) := by decide +kernel
theorem dX3_agrees_66 : decode cX3_agrees 66 = .ok (.iload 5, 2) := by decide +kernel
theorem dX3_agrees_68 : decode cX3_agrees 68 = .ok (.bipush 20, 2) := by decide +kernel
theorem dX3_agrees_70 : decode cX3_agrees 70 = .ok (.if_icmp .ge 39, 3) := by decide +kernel
theorem dX3_agrees_73 : decode cX3_agrees 73 = .ok (.aload_n 0, 1) := by decide +kernel
theorem dX3_agrees_74 : decode cX3_agrees 74 = .ok (.getfield 15, 3) := by decide +kernel
theorem dX3_agrees_77 : decode cX3_agrees 77 = .ok (.iload 5, 2) := by decide +kernel
theorem dX3_agrees_79 : decode cX3_agrees 79 = .ok (.iaload, 1) := by decide +kernel
theorem dX3_agrees_80 : decode cX3_agrees 80 = .ok (.iload 6, 2) := by decide +kernel
theorem dX3_agrees_82 : decode cX3_agrees 82 = .ok (.iconst 5, 1) := by decide +kernel
theorem dX3_agrees_83 : decode cX3_agrees 83 = .ok (.idiv, 1) := by decide +kernel
theorem dX3_agrees_84 : decode cX3_agrees 84 = .ok (.iload_n 3, 1) := by decide +kernel
theorem dX3_agrees_85 : decode cX3_agrees 85 = .ok (.invokestatic 96, 3) := by decide +kernel
theorem dX3_agrees_88 : decode cX3_agrees 88 = .ok (.ifCond .eq 21, 3) := by decide +kernel
theorem dX3_agrees_91 : decode cX3_agrees 91 = .ok (.aload_n 0, 1) := by decide +kernel
theorem dX3_agrees_92 : decode cX3_agrees 92 = .ok (.getfield 19, 3) := by decide +kernel
theorem dX3_agrees_95 : decode cX3_agrees 95 = .ok (.iload 5, 2) := by decide +kernel
theorem dX3_agrees_97 : decode cX3_agrees 97 = .ok (.iaload, 1) := by decide +kernel
theorem dX3_agrees_98 : decode cX3_agrees 98 = .ok (.iload 6, 2) := by decide +kernel
theorem dX3_agrees_100 : decode cX3_agrees 100 = .ok (.iconst 5, 1) := by decide +kernel
theorem dX3_agrees_101 : decode cX3_agrees 101 = .ok (.irem, 1) := by decide +kernel
theorem dX3_agrees_102 : decode cX3_agrees 102 = .ok (.iload_n 3, 1) := by decide +kernel
theorem dX3_agrees_103 : decode cX3_agrees 103 = .ok (.invokestatic 96, 3) := by decide +kernel
theorem dX3_agrees_106 : decode cX3_agrees 106 = .ok (.ifCond .ne 5, 3) := by decide +kernel
theorem dX3_agrees_109 : decode cX3_agrees 109 = .ok (.iconst 0, 1) := by decide +kernel
theorem dX3_agrees_110 : decode cX3_agrees 110 = .ok (.ireturn, 1) := by decide +kernel
theorem dX3_agrees_111 : decode cX3_agrees 111 = .ok (.iinc 4 1, 3) := by decide +kernel
theorem dX3_agrees_114 : decode cX3_agrees 114 = .ok (.goto (-90), 3) := by decide +kernel
theorem dX3_agrees_117 : decode cX3_agrees 117 = .ok (.iconst 1, 1) := by decide +kernel
theorem dX3_agrees_118 : decode cX3_agrees 118 = .ok (.ireturn, 1) := by decide +kernel
noncomputable def f_X3_agrees_L24 (M : ZMem) (x1 : Int32) (x2 : Int32) (x3 : Int32) (s : (Int32)) : Option ((Int32) ⊕ ((Unit) ⊕ Int32)) := zbind (f_X4_lengthOf M x1) (fun r_31 => if r_31 ≤ s then some (.inr (.inl ())) else zbind (f_X2_signAt M x2 s) (fun r_44 => zbind (f_X4_syllableAt M x1 s) (fun r_56 => if r_44 < (zI 0) then some (.inr (.inr (zI 0))) else if (zI 20) ≤ r_44 then some (.inr (.inr (zI 0))) else zchk (zin r_44 20) (zbind (f_X3_mayBe M (M.1 56 (zix r_44)) (r_56 / (zI 5)) x3) (fun r_85 => if r_85 = (zI 0) then some (.inr (.inr (zI 0))) else zchk (zin r_44 20) (zbind (f_X3_mayBe M (M.1 57 (zix r_44)) (r_56 - r_56 / (zI 5) * (zI 5)) x3) (fun r_103 => if r_103 = (zI 0) then some (.inr (.inr (zI 0))) else zbnd (s + (zI 1)) (fun x4_111 => some (.inl x4_111)))))))))
set_option maxRecDepth 100000 in
set_option maxHeartbeats 4000000 in
theorem w_X3_agrees_L24 {E : ZEv} {G : ZG} {K : Int32 → Prop} (M : ZMem) (h : zRu lyC E G (zRp M K) cX3_agrees RX3 7 (some .boolean) 2) (x1 : Int32) (x2 : Int32) (x3 : Int32) (s : (Int32)) (hk : zOk (zloop (f_X3_agrees_L24 M x1 x2 x3) s) (fun e => zsel e (fun e0 => G M 117 [] []) (fun f0 => K f0))) : G M 24 [(0, zrf E 54), (1, .int x1), (2, .int x2), (3, .int x3), (4, .int s)] [] := by
  refine zloop_walk (P := fun s => G M 24 [(0, zrf E 54), (1, .int x1), (2, .int x2), (3, .int x3), (4, .int s)] []) hk (fun s hk => ?_)
  unfold f_X3_agrees_L24 at hk
  refine zr_iload h dX3_agrees_24 4 rfl ?_
  refine zr_aload_n h dX3_agrees_26 0 rfl rfl ?_
  refine zr_getR h zfo_X3_25 lC_54 rfl dX3_agrees_27 ?_
  refine zr_iload_n h dX3_agrees_30 1 rfl rfl ?_
  refine zr_callVp h lC_17 zcw_X3_88 (by decide) (c_X4_lengthOf E M x1 _ (zOk_bind hk)) rfl rfl (Nat.le_of_ble_eq_true rfl) dX3_agrees_31 (fun r_31 hk => ?_)
  refine zr_icmp_ge (tgt := 117) h dX3_agrees_34 (by decide) (fun c => ?_) (fun c => ?_)
  · have hk := zOk_t c hk
    have hk := zOk_some hk
    exact zr_weak h [] rfl hk
  · have hk := zOk_f c hk
    refine zr_aload_n h dX3_agrees_37 0 rfl rfl ?_
    refine zr_getR h zfo_X3_29 lC_54 rfl dX3_agrees_38 ?_
    refine zr_iload_n h dX3_agrees_41 2 rfl rfl ?_
    refine zr_iload h dX3_agrees_42 4 rfl ?_
    refine zr_callVp h lC_34 zcw_X3_89 (by decide) (c_X2_signAt E M x2 s _ (zOk_bind hk)) rfl rfl (Nat.le_of_ble_eq_true rfl) dX3_agrees_44 (fun r_44 hk => ?_)
    refine zr_istore (L' := [(0, zrf E 54), (1, .int x1), (2, .int x2), (3, .int x3), (4, .int s), (5, .int r_44)]) h [1, 2, 3, 4, 5, 0] dX3_agrees_47 (by decide) rfl ?_
    refine zr_aload_n h dX3_agrees_49 0 rfl rfl ?_
    refine zr_getR h zfo_X3_25 lC_54 rfl dX3_agrees_50 ?_
    refine zr_iload_n h dX3_agrees_53 1 rfl rfl ?_
    refine zr_iload h dX3_agrees_54 4 rfl ?_
    refine zr_callVp h lC_17 zcw_X3_93 (by decide) (c_X4_syllableAt E M x1 s _ (zOk_bind hk)) rfl rfl (Nat.le_of_ble_eq_true rfl) dX3_agrees_56 (fun r_56 hk => ?_)
    refine zr_istore (L' := [(0, zrf E 54), (1, .int x1), (2, .int x2), (3, .int x3), (4, .int s), (5, .int r_44), (6, .int r_56)]) h [1, 2, 3, 4, 5, 6, 0] dX3_agrees_59 (by decide) rfl ?_
    refine zr_iload h dX3_agrees_61 5 rfl ?_
    refine zr_if_lt (tgt := 109) h dX3_agrees_63 (by decide) (fun c => ?_) (fun c => ?_)
    · have hk := zOk_t c hk
      refine zr_iconst (v := (zI 0)) h dX3_agrees_109 rfl ?_
      have hk := zOk_some hk
      exact zr_zret h dX3_agrees_110 (by decide) ⟨rfl, _, rfl, hk⟩
    · have hk := zOk_f c hk
      refine zr_iload h dX3_agrees_66 5 rfl ?_
      refine zr_bipush (v := (zI 20)) h dX3_agrees_68 (by decide) ?_
      refine zr_icmp_ge (tgt := 109) h dX3_agrees_70 (by decide) (fun c => ?_) (fun c => ?_)
      · have hk := zOk_t c hk
        refine zr_iconst (v := (zI 0)) h dX3_agrees_109 rfl ?_
        have hk := zOk_some hk
        exact zr_zret h dX3_agrees_110 (by decide) ⟨rfl, _, rfl, hk⟩
      · have hk := zOk_f c hk
        refine zr_aload_n h dX3_agrees_73 0 rfl rfl ?_
        refine zr_getR h zfo_X3_15 lC_54 rfl dX3_agrees_74 ?_
        refine zr_iload h dX3_agrees_77 5 rfl ?_
        have hb := zOk_chk hk
        have hk := hb.2
        refine zr_iald h lC_56 hb.1 dX3_agrees_79 ?_
        refine zr_iload h dX3_agrees_80 6 rfl ?_
        refine zr_iconst (v := (zI 5)) h dX3_agrees_82 rfl ?_
        refine zr_idiv h dX3_agrees_83 (by decide) ?_
        refine zr_iload_n h dX3_agrees_84 3 rfl rfl ?_
        refine zr_callSp h zcw_X3_96 (by decide) (c_X3_mayBe E M (M.1 56 (zix r_44)) (r_56 / (zI 5)) x3 _ (zOk_bind hk)) rfl rfl (Nat.le_of_ble_eq_true rfl) dX3_agrees_85 (fun r_85 hk => ?_)
        refine zr_if_eq (tgt := 109) h dX3_agrees_88 (by decide) (fun c => ?_) (fun c => ?_)
        · have hk := zOk_t c hk
          refine zr_iconst (v := (zI 0)) h dX3_agrees_109 rfl ?_
          have hk := zOk_some hk
          exact zr_zret h dX3_agrees_110 (by decide) ⟨rfl, _, rfl, hk⟩
        · have hk := zOk_f c hk
          refine zr_aload_n h dX3_agrees_91 0 rfl rfl ?_
          refine zr_getR h zfo_X3_19 lC_54 rfl dX3_agrees_92 ?_
          refine zr_iload h dX3_agrees_95 5 rfl ?_
          have hb := zOk_chk hk
          have hk := hb.2
          refine zr_iald h lC_57 hb.1 dX3_agrees_97 ?_
          refine zr_iload h dX3_agrees_98 6 rfl ?_
          refine zr_iconst (v := (zI 5)) h dX3_agrees_100 rfl ?_
          refine zr_irem h dX3_agrees_101 (by decide) ?_
          refine zr_iload_n h dX3_agrees_102 3 rfl rfl ?_
          refine zr_callSp h zcw_X3_96 (by decide) (c_X3_mayBe E M (M.1 57 (zix r_44)) (r_56 - r_56 / (zI 5) * (zI 5)) x3 _ (zOk_bind hk)) rfl rfl (Nat.le_of_ble_eq_true rfl) dX3_agrees_103 (fun r_103 hk => ?_)
          refine zr_if_ne (tgt := 111) h dX3_agrees_106 (by decide) (fun c => ?_) (fun c => ?_)
          · have hk := zOk_t c hk
            refine zr_iconst (v := (zI 0)) h dX3_agrees_109 rfl ?_
            have hk := zOk_some hk
            exact zr_zret h dX3_agrees_110 (by decide) ⟨rfl, _, rfl, hk⟩
          · have hk := zOk_f c hk
            obtain ⟨x4_111, ex⟩ : ∃ y : Int32, y = s + (zI 1) := ⟨_, rfl⟩
            have hk := zOk_bnd ex hk
            refine zr_iinc (v := x4_111) (L' := [(0, zrf E 54), (1, .int x1), (2, .int x2), (3, .int x3), (4, .int x4_111)]) h 4 [1, 2, 3, 4, 0] dX3_agrees_111 rfl (by rw [ex]; rfl) (by decide) rfl ?_
            refine zr_goto (tgt := 24) h dX3_agrees_114 (by decide) ?_
            have hk := zOk_some hk
            exact zr_weak h [0, 1, 2, 3, 4] rfl hk
noncomputable def f_X3_agrees (M : ZMem) (x1 : Int32) (x2 : Int32) (x3 : Int32) : Option Int32 := zbind (f_X2_lengthOf M x2) (fun r_5 => zbind (f_X4_lengthOf M x1) (fun r_13 => if r_5 = r_13 then zbind (zloop (f_X3_agrees_L24 M x1 x2 x3) (zI 0)) (fun e24 => zsel e24 (fun e24a => some (zI 1)) (fun e24b => some e24b)) else some (zI 0)))
set_option maxRecDepth 100000 in
set_option maxHeartbeats 4000000 in
theorem c_X3_agrees (E : ZEv) (M : ZMem) (x1 : Int32) (x2 : Int32) (x3 : Int32) (K : Int32 → Prop) (hk : zOk (f_X3_agrees M x1 x2 x3) K) : zCon lyC E yX3_agrees cX3_agrees 7 (some .boolean) 2 [zrf E 54, .int x1, .int x2, .int x3] M (zRp M K) := by
  refine zcon_of (L0 := [(0, zrf E 54), (1, .int x1), (2, .int x2), (3, .int x3)]) (by decide) rfl (Nat.le_of_ble_eq_true rfl) (fun G h => ?_)
  have h : zRu lyC E G (zRp M K) cX3_agrees RX3 7 (some .boolean) 2 := h
  unfold f_X3_agrees at hk
  refine zr_aload_n h dX3_agrees_0 0 rfl rfl ?_
  refine zr_getR h zfo_X3_29 lC_54 rfl dX3_agrees_1 ?_
  refine zr_iload_n h dX3_agrees_4 2 rfl rfl ?_
  refine zr_callVp h lC_34 zcw_X3_85 (by decide) (c_X2_lengthOf E M x2 _ (zOk_bind hk)) rfl rfl (Nat.le_of_ble_eq_true rfl) dX3_agrees_5 (fun r_5 hk => ?_)
  refine zr_aload_n h dX3_agrees_8 0 rfl rfl ?_
  refine zr_getR h zfo_X3_25 lC_54 rfl dX3_agrees_9 ?_
  refine zr_iload_n h dX3_agrees_12 1 rfl rfl ?_
  refine zr_callVp h lC_17 zcw_X3_88 (by decide) (c_X4_lengthOf E M x1 _ (zOk_bind hk)) rfl rfl (Nat.le_of_ble_eq_true rfl) dX3_agrees_13 (fun r_13 hk => ?_)
  refine zr_icmp_eq (tgt := 21) h dX3_agrees_16 (by decide) (fun c => ?_) (fun c => ?_)
  · have hk := zOk_t c hk
    refine zr_iconst (v := (zI 0)) h dX3_agrees_21 rfl ?_
    refine zr_istore (L' := [(0, zrf E 54), (1, .int x1), (2, .int x2), (3, .int x3), (4, .int (zI 0))]) h [1, 2, 3, 4, 0] dX3_agrees_22 (by decide) rfl ?_
    refine w_X3_agrees_L24 M h x1 x2 x3 (zI 0) (zOk_mono (zOk_bind hk) (fun e24 hk => ?_))
    cases e24 with
    | inl e24a =>
      have hk := zOk_selL hk
      refine zr_iconst (v := (zI 1)) h dX3_agrees_117 rfl ?_
      have hk := zOk_some hk
      exact zr_zret h dX3_agrees_118 (by decide) ⟨rfl, _, rfl, hk⟩
    | inr e24b =>
      have hk := zOk_selR hk
      have hk := zOk_some hk
      exact hk
  · have hk := zOk_f c hk
    refine zr_iconst (v := (zI 0)) h dX3_agrees_19 rfl ?_
    have hk := zOk_some hk
    exact zr_zret h dX3_agrees_20 (by decide) ⟨rfl, _, rfl, hk⟩
theorem dX3_hasShape_0 : decode cX3_hasShape 0 = .ok (.iconst 0, 1) := by decide +kernel
theorem dX3_hasShape_1 : decode cX3_hasShape 1 = .ok (.istore_n 3, 1) := by decide +kernel
theorem dX3_hasShape_2 : decode cX3_hasShape 2 = .ok (.iload_n 3, 1) := by decide +kernel
theorem dX3_hasShape_3 : decode cX3_hasShape 3 = .ok (.aload_n 0, 1) := by decide +kernel
theorem dX3_hasShape_4 : decode cX3_hasShape 4 = .ok (.getfield 29, 3) := by decide +kernel
theorem dX3_hasShape_7 : decode cX3_hasShape 7 = .ok (.iload_n 2, 1) := by decide +kernel
theorem dX3_hasShape_8 : decode cX3_hasShape 8 = .ok (.invokevirtual 85, 3) := by decide +kernel
theorem dX3_hasShape_11 : decode cX3_hasShape 11 = .ok (.if_icmp .ge 91, 3) := by decide +kernel
theorem dX3_hasShape_14 : decode cX3_hasShape 14 = .ok (.iconst 0, 1) := by decide +kernel
theorem dX3_hasShape_15 : decode cX3_hasShape 15 = .ok (.istore 4, 2) := by decide +kernel
theorem dX3_hasShape_17 : decode cX3_hasShape 17 = .ok (.iload 4, 2) := by decide +kernel
theorem dX3_hasShape_19 : decode cX3_hasShape 19 = .ok (.iload_n 3, 1) := by decide +kernel
theorem dX3_hasShape_20 : decode cX3_hasShape 20 = .ok (.if_icmp .ge 76, 3) := by decide +kernel
theorem dX3_hasShape_23 : decode cX3_hasShape 23 = .ok (.aload_n 0, 1) := by decide +kernel
theorem dX3_hasShape_24 : decode cX3_hasShape 24 = .ok (.getfield 29, 3) := by decide +kernel
theorem dX3_hasShape_27 : decode cX3_hasShape 27 = .ok (.iload_n 2, 1) := by decide +kernel
theorem dX3_hasShape_28 : decode cX3_hasShape 28 = .ok (.iload_n 3, 1) := by decide +kernel
theorem dX3_hasShape_29 : decode cX3_hasShape 29 = .ok (.invokevirtual 89, 3) := by decide +kernel
theorem dX3_hasShape_32 : decode cX3_hasShape 32 = .ok (.aload_n 0, 1) := by decide +kernel
theorem dX3_hasShape_33 : decode cX3_hasShape 33 = .ok (.getfield 29, 3) := by decide +kernel
theorem dX3_hasShape_36 : decode cX3_hasShape 36 = .ok (.iload_n 2, 1) := by decide +kernel
theorem dX3_hasShape_37 : decode cX3_hasShape 37 = .ok (.iload 4, 2) := by decide +kernel
theorem dX3_hasShape_39 : decode cX3_hasShape 39 = .ok (.invokevirtual 89, 3) := by decide +kernel
theorem dX3_hasShape_42 : decode cX3_hasShape 42 = .ok (.if_icmp .ne 7, 3) := by decide +kernel
theorem dX3_hasShape_45 : decode cX3_hasShape 45 = .ok (.iconst 1, 1) := by decide +kernel
theorem dX3_hasShape_46 : decode cX3_hasShape 46 = .ok (.goto 4, 3) := by decide +kernel
theorem dX3_hasShape_49 : decode cX3_hasShape 49 = .ok (.iconst 0, 1) := by decide +kernel
theorem dX3_hasShape_50 : decode cX3_hasShape 50 = .ok (.istore 5, 2) := by decide +kernel
theorem dX3_hasShape_52 : decode cX3_hasShape 52 = .ok (.aload_n 0, 1) := by decide +kernel
theorem dX3_hasShape_53 : decode cX3_hasShape 53 = .ok (.getfield 25, 3) := by decide +kernel
theorem dX3_hasShape_56 : decode cX3_hasShape 56 = .ok (.iload_n 1, 1) := by decide +kernel
theorem dX3_hasShape_57 : decode cX3_hasShape 57 = .ok (.iload_n 3, 1) := by decide +kernel
theorem dX3_hasShape_58 : decode cX3_hasShape 58 = .ok (.invokevirtual 93, 3) := by decide +kernel
theorem dX3_hasShape_61 : decode cX3_hasShape 61 = .ok (.aload_n 0, 1) := by decide +kernel
theorem dX3_hasShape_62 : decode cX3_hasShape 62 = .ok (.getfield 25, 3) := by decide +kernel
theorem dX3_hasShape_65 : decode cX3_hasShape 65 = .ok (.iload_n 1, 1) := by decide +kernel
theorem dX3_hasShape_66 : decode cX3_hasShape 66 = .ok (.iload 4, 2) := by decide +kernel
theorem dX3_hasShape_68 : decode cX3_hasShape 68 = .ok (.invokevirtual 93, 3) := by decide +kernel
theorem dX3_hasShape_71 : decode cX3_hasShape 71 = .ok (.if_icmp .ne 7, 3) := by decide +kernel
theorem dX3_hasShape_74 : decode cX3_hasShape 74 = .ok (.iconst 1, 1) := by decide +kernel
theorem dX3_hasShape_75 : decode cX3_hasShape 75 = .ok (.goto 4, 3) := by decide +kernel
theorem dX3_hasShape_78 : decode cX3_hasShape 78 = .ok (.iconst 0, 1) := by decide +kernel
theorem dX3_hasShape_79 : decode cX3_hasShape 79 = .ok (.istore 6, 2) := by decide +kernel
theorem dX3_hasShape_81 : decode cX3_hasShape 81 = .ok (.iload 5, 2) := by decide +kernel
theorem dX3_hasShape_83 : decode cX3_hasShape 83 = .ok (.iload 6, 2) := by decide +kernel
theorem dX3_hasShape_85 : decode cX3_hasShape 85 = .ok (.if_icmp .eq 5, 3) := by decide +kernel
theorem dX3_hasShape_88 : decode cX3_hasShape 88 = .ok (.iconst 0, 1) := by decide +kernel
theorem dX3_hasShape_89 : decode cX3_hasShape 89 = .ok (.ireturn, 1) := by decide +kernel
theorem dX3_hasShape_90 : decode cX3_hasShape 90 = .ok (.iinc 4 1, 3) := by decide +kernel
theorem dX3_hasShape_93 : decode cX3_hasShape 93 = .ok (.goto (-76), 3) := by decide +kernel
theorem dX3_hasShape_96 : decode cX3_hasShape 96 = .ok (.iinc 3 1, 3) := by decide +kernel
theorem dX3_hasShape_99 : decode cX3_hasShape 99 = .ok (.goto (-97), 3) := by decide +kernel
theorem dX3_hasShape_102 : decode cX3_hasShape 102 = .ok (.iconst 1, 1) := by decide +kernel
theorem dX3_hasShape_103 : decode cX3_hasShape 103 = .ok (.ireturn, 1) := by decide +kernel
noncomputable def f_X3_hasShape_79_L17 (M : ZMem) (x1 : Int32) (x2 : Int32) (x3 : Int32) (x4 : Int32) (x5 : Int32) (v0 : Int32) : Option ((Int32) ⊕ ((Unit) ⊕ Int32)) := if x5 = v0 then zbnd (x4 + (zI 1)) (fun x4_90 => some (.inl x4_90)) else some (.inr (.inr (zI 0)))
set_option maxRecDepth 100000 in
set_option maxHeartbeats 4000000 in
theorem w_X3_hasShape_79_L17 {E : ZEv} {G : ZG} {K : Int32 → Prop} (M : ZMem) (h : zRu lyC E G (zRp M K) cX3_hasShape RX3 7 (some .boolean) 2) (x1 : Int32) (x2 : Int32) (x3 : Int32) (x4 : Int32) (x5 : Int32) (v0 : Int32) (hk : zOk (f_X3_hasShape_79_L17 M x1 x2 x3 x4 x5 v0) (zlp (fun s => G M 17 [(0, zrf E 54), (1, .int x1), (2, .int x2), (3, .int x3), (4, .int s)] []) (fun e => zsel e (fun e0 => G M 96 [(0, zrf E 54), (1, .int x1), (2, .int x2), (3, .int x3)] []) (fun f0 => K f0)))) : G M 79 [(0, zrf E 54), (1, .int x1), (2, .int x2), (3, .int x3), (4, .int x4), (5, .int x5)] [.int v0] := by
  unfold f_X3_hasShape_79_L17 at hk
  refine zr_istore (L' := [(0, zrf E 54), (1, .int x1), (2, .int x2), (3, .int x3), (4, .int x4), (5, .int x5), (6, .int v0)]) h [1, 2, 3, 4, 5, 6, 0] dX3_hasShape_79 (by decide) rfl ?_
  refine zr_iload h dX3_hasShape_81 5 rfl ?_
  refine zr_iload h dX3_hasShape_83 6 rfl ?_
  refine zr_icmp_eq (tgt := 90) h dX3_hasShape_85 (by decide) (fun c => ?_) (fun c => ?_)
  · have hk := zOk_t c hk
    obtain ⟨x4_90, ex⟩ : ∃ y : Int32, y = x4 + (zI 1) := ⟨_, rfl⟩
    have hk := zOk_bnd ex hk
    refine zr_iinc (v := x4_90) (L' := [(0, zrf E 54), (1, .int x1), (2, .int x2), (3, .int x3), (4, .int x4_90)]) h 4 [1, 2, 3, 4, 0] dX3_hasShape_90 rfl (by rw [ex]; rfl) (by decide) rfl ?_
    refine zr_goto (tgt := 17) h dX3_hasShape_93 (by decide) ?_
    have hk := zOk_some hk
    exact zr_weak h [0, 1, 2, 3, 4] rfl hk
  · have hk := zOk_f c hk
    refine zr_iconst (v := (zI 0)) h dX3_hasShape_88 rfl ?_
    have hk := zOk_some hk
    exact zr_zret h dX3_hasShape_89 (by decide) ⟨rfl, _, rfl, hk⟩
noncomputable def f_X3_hasShape_50_L17 (M : ZMem) (x1 : Int32) (x2 : Int32) (x3 : Int32) (x4 : Int32) (v0 : Int32) : Option ((Int32) ⊕ ((Unit) ⊕ Int32)) := zbind (f_X4_syllableAt M x1 x3) (fun r_58 => zbind (f_X4_syllableAt M x1 x4) (fun r_68 => if r_58 = r_68 then f_X3_hasShape_79_L17 M x1 x2 x3 x4 v0 (zI 1) else f_X3_hasShape_79_L17 M x1 x2 x3 x4 v0 (zI 0)))
set_option maxRecDepth 100000 in
set_option maxHeartbeats 4000000 in
theorem w_X3_hasShape_50_L17 {E : ZEv} {G : ZG} {K : Int32 → Prop} (M : ZMem) (h : zRu lyC E G (zRp M K) cX3_hasShape RX3 7 (some .boolean) 2) (x1 : Int32) (x2 : Int32) (x3 : Int32) (x4 : Int32) (v0 : Int32) (hk : zOk (f_X3_hasShape_50_L17 M x1 x2 x3 x4 v0) (zlp (fun s => G M 17 [(0, zrf E 54), (1, .int x1), (2, .int x2), (3, .int x3), (4, .int s)] []) (fun e => zsel e (fun e0 => G M 96 [(0, zrf E 54), (1, .int x1), (2, .int x2), (3, .int x3)] []) (fun f0 => K f0)))) : G M 50 [(0, zrf E 54), (1, .int x1), (2, .int x2), (3, .int x3), (4, .int x4)] [.int v0] := by
  unfold f_X3_hasShape_50_L17 at hk
  refine zr_istore (L' := [(0, zrf E 54), (1, .int x1), (2, .int x2), (3, .int x3), (4, .int x4), (5, .int v0)]) h [1, 2, 3, 4, 5, 0] dX3_hasShape_50 (by decide) rfl ?_
  refine zr_aload_n h dX3_hasShape_52 0 rfl rfl ?_
  refine zr_getR h zfo_X3_25 lC_54 rfl dX3_hasShape_53 ?_
  refine zr_iload_n h dX3_hasShape_56 1 rfl rfl ?_
  refine zr_iload_n h dX3_hasShape_57 3 rfl rfl ?_
  refine zr_callVp h lC_17 zcw_X3_93 (by decide) (c_X4_syllableAt E M x1 x3 _ (zOk_bind hk)) rfl rfl (Nat.le_of_ble_eq_true rfl) dX3_hasShape_58 (fun r_58 hk => ?_)
  refine zr_aload_n h dX3_hasShape_61 0 rfl rfl ?_
  refine zr_getR h zfo_X3_25 lC_54 rfl dX3_hasShape_62 ?_
  refine zr_iload_n h dX3_hasShape_65 1 rfl rfl ?_
  refine zr_iload h dX3_hasShape_66 4 rfl ?_
  refine zr_callVp h lC_17 zcw_X3_93 (by decide) (c_X4_syllableAt E M x1 x4 _ (zOk_bind hk)) rfl rfl (Nat.le_of_ble_eq_true rfl) dX3_hasShape_68 (fun r_68 hk => ?_)
  refine zr_icmp_ne (tgt := 78) h dX3_hasShape_71 (by decide) (fun c => ?_) (fun c => ?_)
  · have hk := zOk_t c hk
    refine zr_iconst (v := (zI 1)) h dX3_hasShape_74 rfl ?_
    refine zr_goto (tgt := 79) h dX3_hasShape_75 (by decide) ?_
    exact w_X3_hasShape_79_L17 M h x1 x2 x3 x4 v0 (zI 1) hk
  · have hk := zOk_f c hk
    refine zr_iconst (v := (zI 0)) h dX3_hasShape_78 rfl ?_
    exact w_X3_hasShape_79_L17 M h x1 x2 x3 x4 v0 (zI 0) hk
noncomputable def f_X3_hasShape_L17 (M : ZMem) (x1 : Int32) (x2 : Int32) (x3 : Int32) (s : (Int32)) : Option ((Int32) ⊕ ((Unit) ⊕ Int32)) := if x3 ≤ s then some (.inr (.inl ())) else zbind (f_X2_signAt M x2 x3) (fun r_29 => zbind (f_X2_signAt M x2 s) (fun r_39 => if r_29 = r_39 then f_X3_hasShape_50_L17 M x1 x2 x3 s (zI 1) else f_X3_hasShape_50_L17 M x1 x2 x3 s (zI 0)))
set_option maxRecDepth 100000 in
set_option maxHeartbeats 4000000 in
theorem w_X3_hasShape_L17 {E : ZEv} {G : ZG} {K : Int32 → Prop} (M : ZMem) (h : zRu lyC E G (zRp M K) cX3_hasShape RX3 7 (some .boolean) 2) (x1 : Int32) (x2 : Int32) (x3 : Int32) (s : (Int32)) (hk : zOk (zloop (f_X3_hasShape_L17 M x1 x2 x3) s) (fun e => zsel e (fun e0 => G M 96 [(0, zrf E 54), (1, .int x1), (2, .int x2), (3, .int x3)] []) (fun f0 => K f0))) : G M 17 [(0, zrf E 54), (1, .int x1), (2, .int x2), (3, .int x3), (4, .int s)] [] := by
  refine zloop_walk (P := fun s => G M 17 [(0, zrf E 54), (1, .int x1), (2, .int x2), (3, .int x3), (4, .int s)] []) hk (fun s hk => ?_)
  unfold f_X3_hasShape_L17 at hk
  refine zr_iload h dX3_hasShape_17 4 rfl ?_
  refine zr_iload_n h dX3_hasShape_19 3 rfl rfl ?_
  refine zr_icmp_ge (tgt := 96) h dX3_hasShape_20 (by decide) (fun c => ?_) (fun c => ?_)
  · have hk := zOk_t c hk
    have hk := zOk_some hk
    exact zr_weak h [0, 1, 2, 3] rfl hk
  · have hk := zOk_f c hk
    refine zr_aload_n h dX3_hasShape_23 0 rfl rfl ?_
    refine zr_getR h zfo_X3_29 lC_54 rfl dX3_hasShape_24 ?_
    refine zr_iload_n h dX3_hasShape_27 2 rfl rfl ?_
    refine zr_iload_n h dX3_hasShape_28 3 rfl rfl ?_
    refine zr_callVp h lC_34 zcw_X3_89 (by decide) (c_X2_signAt E M x2 x3 _ (zOk_bind hk)) rfl rfl (Nat.le_of_ble_eq_true rfl) dX3_hasShape_29 (fun r_29 hk => ?_)
    refine zr_aload_n h dX3_hasShape_32 0 rfl rfl ?_
    refine zr_getR h zfo_X3_29 lC_54 rfl dX3_hasShape_33 ?_
    refine zr_iload_n h dX3_hasShape_36 2 rfl rfl ?_
    refine zr_iload h dX3_hasShape_37 4 rfl ?_
    refine zr_callVp h lC_34 zcw_X3_89 (by decide) (c_X2_signAt E M x2 s _ (zOk_bind hk)) rfl rfl (Nat.le_of_ble_eq_true rfl) dX3_hasShape_39 (fun r_39 hk => ?_)
    refine zr_icmp_ne (tgt := 49) h dX3_hasShape_42 (by decide) (fun c => ?_) (fun c => ?_)
    · have hk := zOk_t c hk
      refine zr_iconst (v := (zI 1)) h dX3_hasShape_45 rfl ?_
      refine zr_goto (tgt := 50) h dX3_hasShape_46 (by decide) ?_
      exact w_X3_hasShape_50_L17 M h x1 x2 x3 s (zI 1) hk
    · have hk := zOk_f c hk
      refine zr_iconst (v := (zI 0)) h dX3_hasShape_49 rfl ?_
      exact w_X3_hasShape_50_L17 M h x1 x2 x3 s (zI 0) hk
noncomputable def f_X3_hasShape_L2 (M : ZMem) (x1 : Int32) (x2 : Int32) (s : (Int32)) : Option ((Int32) ⊕ ((Unit) ⊕ Int32)) := zbind (f_X2_lengthOf M x2) (fun r_8 => if r_8 ≤ s then some (.inr (.inl ())) else zbind (zloop (f_X3_hasShape_L17 M x1 x2 s) (zI 0)) (fun e17 => zsel e17 (fun e17a => zbnd (s + (zI 1)) (fun x3_96 => some (.inl x3_96))) (fun e17b => some (.inr (.inr e17b)))))
set_option maxRecDepth 100000 in
set_option maxHeartbeats 4000000 in
theorem w_X3_hasShape_L2 {E : ZEv} {G : ZG} {K : Int32 → Prop} (M : ZMem) (h : zRu lyC E G (zRp M K) cX3_hasShape RX3 7 (some .boolean) 2) (x1 : Int32) (x2 : Int32) (s : (Int32)) (hk : zOk (zloop (f_X3_hasShape_L2 M x1 x2) s) (fun e => zsel e (fun e0 => G M 102 [] []) (fun f0 => K f0))) : G M 2 [(0, zrf E 54), (1, .int x1), (2, .int x2), (3, .int s)] [] := by
  refine zloop_walk (P := fun s => G M 2 [(0, zrf E 54), (1, .int x1), (2, .int x2), (3, .int s)] []) hk (fun s hk => ?_)
  unfold f_X3_hasShape_L2 at hk
  refine zr_iload_n h dX3_hasShape_2 3 rfl rfl ?_
  refine zr_aload_n h dX3_hasShape_3 0 rfl rfl ?_
  refine zr_getR h zfo_X3_29 lC_54 rfl dX3_hasShape_4 ?_
  refine zr_iload_n h dX3_hasShape_7 2 rfl rfl ?_
  refine zr_callVp h lC_34 zcw_X3_85 (by decide) (c_X2_lengthOf E M x2 _ (zOk_bind hk)) rfl rfl (Nat.le_of_ble_eq_true rfl) dX3_hasShape_8 (fun r_8 hk => ?_)
  refine zr_icmp_ge (tgt := 102) h dX3_hasShape_11 (by decide) (fun c => ?_) (fun c => ?_)
  · have hk := zOk_t c hk
    have hk := zOk_some hk
    exact zr_weak h [] rfl hk
  · have hk := zOk_f c hk
    refine zr_iconst (v := (zI 0)) h dX3_hasShape_14 rfl ?_
    refine zr_istore (L' := [(0, zrf E 54), (1, .int x1), (2, .int x2), (3, .int s), (4, .int (zI 0))]) h [1, 2, 3, 4, 0] dX3_hasShape_15 (by decide) rfl ?_
    refine w_X3_hasShape_L17 M h x1 x2 s (zI 0) (zOk_mono (zOk_bind hk) (fun e17 hk => ?_))
    cases e17 with
    | inl e17a =>
      have hk := zOk_selL hk
      obtain ⟨x3_96, ex⟩ : ∃ y : Int32, y = s + (zI 1) := ⟨_, rfl⟩
      have hk := zOk_bnd ex hk
      refine zr_iinc (v := x3_96) (L' := [(0, zrf E 54), (1, .int x1), (2, .int x2), (3, .int x3_96)]) h 3 [1, 2, 3, 0] dX3_hasShape_96 rfl (by rw [ex]; rfl) (by decide) rfl ?_
      refine zr_goto (tgt := 2) h dX3_hasShape_99 (by decide) ?_
      have hk := zOk_some hk
      exact zr_weak h [0, 1, 2, 3] rfl hk
    | inr e17b =>
      have hk := zOk_selR hk
      have hk := zOk_some hk
      exact hk
noncomputable def f_X3_hasShape (M : ZMem) (x1 : Int32) (x2 : Int32) : Option Int32 := zbind (zloop (f_X3_hasShape_L2 M x1 x2) (zI 0)) (fun e2 => zsel e2 (fun e2a => some (zI 1)) (fun e2b => some e2b))
set_option maxRecDepth 100000 in
set_option maxHeartbeats 4000000 in
theorem c_X3_hasShape (E : ZEv) (M : ZMem) (x1 : Int32) (x2 : Int32) (K : Int32 → Prop) (hk : zOk (f_X3_hasShape M x1 x2) K) : zCon lyC E yX3_hasShape cX3_hasShape 7 (some .boolean) 2 [zrf E 54, .int x1, .int x2] M (zRp M K) := by
  refine zcon_of (L0 := [(0, zrf E 54), (1, .int x1), (2, .int x2)]) (by decide) rfl (Nat.le_of_ble_eq_true rfl) (fun G h => ?_)
  have h : zRu lyC E G (zRp M K) cX3_hasShape RX3 7 (some .boolean) 2 := h
  unfold f_X3_hasShape at hk
  refine zr_iconst (v := (zI 0)) h dX3_hasShape_0 rfl ?_
  refine zr_istore_n (L' := [(0, zrf E 54), (1, .int x1), (2, .int x2), (3, .int (zI 0))]) h [1, 2, 3, 0] dX3_hasShape_1 rfl (by decide) rfl ?_
  refine w_X3_hasShape_L2 M h x1 x2 (zI 0) (zOk_mono (zOk_bind hk) (fun e2 hk => ?_))
  cases e2 with
  | inl e2a =>
    have hk := zOk_selL hk
    refine zr_iconst (v := (zI 1)) h dX3_hasShape_102 rfl ?_
    have hk := zOk_some hk
    exact zr_zret h dX3_hasShape_103 (by decide) ⟨rfl, _, rfl, hk⟩
  | inr e2b =>
    have hk := zOk_selR hk
    have hk := zOk_some hk
    exact hk
theorem dX3_countHits_0 : decode cX3_countHits 0 = .ok (.iconst 0, 1) := by decide +kernel
theorem dX3_countHits_1 : decode cX3_countHits 1 = .ok (.istore_n 1, 1) := by decide +kernel
theorem dX3_countHits_2 : decode cX3_countHits 2 = .ok (.iconst 0, 1) := by decide +kernel
theorem dX3_countHits_3 : decode cX3_countHits 3 = .ok (.istore_n 2, 1) := by decide +kernel
theorem dX3_countHits_4 : decode cX3_countHits 4 = .ok (.iload_n 2, 1) := by decide +kernel
theorem dX3_countHits_5 : decode cX3_countHits 5 = .ok (.aload_n 0, 1) := by decide +kernel
theorem dX3_countHits_6 : decode cX3_countHits 6 = .ok (.getfield 25, 3) := by decide +kernel
theorem dX3_countHits_9 : decode cX3_countHits 9 = .ok (.invokevirtual 50, 3) := by decide +kernel
theorem dX3_countHits_12 : decode cX3_countHits 12 = .ok (.if_icmp .ge 55, 3) := by decide +kernel
theorem dX3_countHits_15 : decode cX3_countHits 15 = .ok (.iconst 0, 1) := by decide +kernel
theorem dX3_countHits_16 : decode cX3_countHits 16 = .ok (.istore_n 3, 1) := by decide +kernel
theorem dX3_countHits_17 : decode cX3_countHits 17 = .ok (.iload_n 3, 1) := by decide +kernel
theorem dX3_countHits_18 : decode cX3_countHits 18 = .ok (.aload_n 0, 1) := by decide +kernel
theorem dX3_countHits_19 : decode cX3_countHits 19 = .ok (.getfield 29, 3) := by decide +kernel
theorem dX3_countHits_22 : decode cX3_countHits 22 = .ok (.invokevirtual 56, 3) := by decide +kernel
theorem dX3_countHits_25 : decode cX3_countHits 25 = .ok (.if_icmp .ge 36, 3) := by decide +kernel
theorem dX3_countHits_28 : decode cX3_countHits 28 = .ok (.iload_n 1, 1) := by decide +kernel
theorem dX3_countHits_29 : decode cX3_countHits 29 = .ok (.aload_n 0, 1) := by decide +kernel
theorem dX3_countHits_30 : decode cX3_countHits 30 = .ok (.iload_n 2, 1) := by decide +kernel
theorem dX3_countHits_31 : decode cX3_countHits 31 = .ok (.iload_n 3, 1) := by decide +kernel
theorem dX3_countHits_32 : decode cX3_countHits 32 = .ok (.iconst 1, 1) := by decide +kernel
theorem dX3_countHits_33 : decode cX3_countHits 33 = .ok (.invokevirtual 65, 3) := by decide +kernel
theorem dX3_countHits_36 : decode cX3_countHits 36 = .ok (.ifCond .eq 16, 3) := by decide +kernel
theorem dX3_countHits_39 : decode cX3_countHits 39 = .ok (.aload_n 0, 1) := by decide +kernel
theorem dX3_countHits_40 : decode cX3_countHits 40 = .ok (.iload_n 2, 1) := by decide +kernel
theorem dX3_countHits_41 : decode cX3_countHits 41 = .ok (.iload_n 3, 1) := by decide +kernel
theorem dX3_countHits_42 : decode cX3_countHits 42 = .ok (.invokevirtual 69, 3) := by decide +kernel
theorem dX3_countHits_45 : decode cX3_countHits 45 = .ok (.ifCond .eq 7, 3) := by decide +kernel
theorem dX3_countHits_48 : decode cX3_countHits 48 = .ok (.iconst 1, 1) := by decide +kernel
theorem dX3_countHits_49 : decode cX3_countHits 49 = .ok (.goto 4, 3) := by decide +kernel
theorem dX3_countHits_52 : decode cX3_countHits 52 = .ok (.iconst 0, 1) := by decide +kernel
theorem dX3_countHits_53 : decode cX3_countHits 53 = .ok (.iadd, 1) := by decide +kernel
theorem dX3_countHits_54 : decode cX3_countHits 54 = .ok (.istore_n 1, 1) := by decide +kernel
theorem dX3_countHits_55 : decode cX3_countHits 55 = .ok (.iinc 3 1, 3) := by decide +kernel
theorem dX3_countHits_58 : decode cX3_countHits 58 = .ok (.goto (-41), 3) := by decide +kernel
theorem dX3_countHits_61 : decode cX3_countHits 61 = .ok (.iinc 2 1, 3) := by decide +kernel
theorem dX3_countHits_64 : decode cX3_countHits 64 = .ok (.goto (-60), 3) := by decide +kernel
theorem dX3_countHits_67 : decode cX3_countHits 67 = .ok (.iload_n 1, 1) := by decide +kernel
theorem dX3_countHits_68 : decode cX3_countHits 68 = .ok (.ireturn, 1) := by decide +kernel
noncomputable def f_X3_countHits_L17 (M : ZMem) (x2 : Int32) (s : (Int32 × Int32)) : Option ((Int32 × Int32) ⊕ (Int32)) := zbind (f_X2_held M) (fun r_22 => if r_22 ≤ s.2 then some (.inr s.1) else zbind (f_X3_agrees M x2 s.2 (zI 1)) (fun r_33 => if r_33 = (zI 0) then zbnd (s.1 + (zI 0)) (fun x1_54 => zbnd (s.2 + (zI 1)) (fun x3_55 => some (.inl (x1_54, x3_55)))) else zbind (f_X3_hasShape M x2 s.2) (fun r_42 => if r_42 = (zI 0) then zbnd (s.1 + (zI 0)) (fun x1_54 => zbnd (s.2 + (zI 1)) (fun x3_55 => some (.inl (x1_54, x3_55)))) else zbnd (s.1 + (zI 1)) (fun x1_54 => zbnd (s.2 + (zI 1)) (fun x3_55 => some (.inl (x1_54, x3_55)))))))
set_option maxRecDepth 100000 in
set_option maxHeartbeats 4000000 in
theorem w_X3_countHits_L17 {E : ZEv} {G : ZG} {K : Int32 → Prop} (M : ZMem) (h : zRu lyC E G (zRp M K) cX3_countHits RX3 4 (some .int) 3) (x2 : Int32) (s : (Int32 × Int32)) (hk : zOk (zloop (f_X3_countHits_L17 M x2) s) (fun e => G M 61 [(0, zrf E 54), (1, .int e), (2, .int x2)] [])) : G M 17 [(0, zrf E 54), (1, .int s.1), (2, .int x2), (3, .int s.2)] [] := by
  refine zloop_walk (P := fun s => G M 17 [(0, zrf E 54), (1, .int s.1), (2, .int x2), (3, .int s.2)] []) hk (fun s hk => ?_)
  unfold f_X3_countHits_L17 at hk
  refine zr_iload_n h dX3_countHits_17 3 rfl rfl ?_
  refine zr_aload_n h dX3_countHits_18 0 rfl rfl ?_
  refine zr_getR h zfo_X3_29 lC_54 rfl dX3_countHits_19 ?_
  refine zr_callVp h lC_34 zcw_X3_56 (by decide) (c_X2_held E M _ (zOk_bind hk)) rfl rfl (Nat.le_of_ble_eq_true rfl) dX3_countHits_22 (fun r_22 hk => ?_)
  refine zr_icmp_ge (tgt := 61) h dX3_countHits_25 (by decide) (fun c => ?_) (fun c => ?_)
  · have hk := zOk_t c hk
    have hk := zOk_some hk
    exact zr_weak h [0, 1, 2] rfl hk
  · have hk := zOk_f c hk
    refine zr_iload_n h dX3_countHits_28 1 rfl rfl ?_
    refine zr_aload_n h dX3_countHits_29 0 rfl rfl ?_
    refine zr_iload_n h dX3_countHits_30 2 rfl rfl ?_
    refine zr_iload_n h dX3_countHits_31 3 rfl rfl ?_
    refine zr_iconst (v := (zI 1)) h dX3_countHits_32 rfl ?_
    refine zr_callVp h lC_54 zcw_X3_65 (by decide) (c_X3_agrees E M x2 s.2 (zI 1) _ (zOk_bind hk)) rfl rfl (Nat.le_of_ble_eq_true rfl) dX3_countHits_33 (fun r_33 hk => ?_)
    refine zr_if_eq (tgt := 52) h dX3_countHits_36 (by decide) (fun c => ?_) (fun c => ?_)
    · have hk := zOk_t c hk
      refine zr_iconst (v := (zI 0)) h dX3_countHits_52 rfl ?_
      refine zr_iadd h dX3_countHits_53 ?_
      refine zr_topi (fun x1_54 ex => ?_)
      have hk := zOk_bnd ex hk
      refine zr_istore_n (L' := [(0, zrf E 54), (1, .int x1_54), (2, .int x2), (3, .int s.2)]) h [1, 0, 2, 3] dX3_countHits_54 rfl (by decide) rfl ?_
      obtain ⟨x3_55, ex⟩ : ∃ y : Int32, y = s.2 + (zI 1) := ⟨_, rfl⟩
      have hk := zOk_bnd ex hk
      refine zr_iinc (v := x3_55) (L' := [(0, zrf E 54), (1, .int x1_54), (2, .int x2), (3, .int x3_55)]) h 3 [1, 2, 3, 0] dX3_countHits_55 rfl (by rw [ex]; rfl) (by decide) rfl ?_
      refine zr_goto (tgt := 17) h dX3_countHits_58 (by decide) ?_
      have hk := zOk_some hk
      exact zr_weak h [0, 1, 2, 3] rfl hk
    · have hk := zOk_f c hk
      refine zr_aload_n h dX3_countHits_39 0 rfl rfl ?_
      refine zr_iload_n h dX3_countHits_40 2 rfl rfl ?_
      refine zr_iload_n h dX3_countHits_41 3 rfl rfl ?_
      refine zr_callVp h lC_54 zcw_X3_69 (by decide) (c_X3_hasShape E M x2 s.2 _ (zOk_bind hk)) rfl rfl (Nat.le_of_ble_eq_true rfl) dX3_countHits_42 (fun r_42 hk => ?_)
      refine zr_if_eq (tgt := 52) h dX3_countHits_45 (by decide) (fun c => ?_) (fun c => ?_)
      · have hk := zOk_t c hk
        refine zr_iconst (v := (zI 0)) h dX3_countHits_52 rfl ?_
        refine zr_iadd h dX3_countHits_53 ?_
        refine zr_topi (fun x1_54 ex => ?_)
        have hk := zOk_bnd ex hk
        refine zr_istore_n (L' := [(0, zrf E 54), (1, .int x1_54), (2, .int x2), (3, .int s.2)]) h [1, 0, 2, 3] dX3_countHits_54 rfl (by decide) rfl ?_
        obtain ⟨x3_55, ex⟩ : ∃ y : Int32, y = s.2 + (zI 1) := ⟨_, rfl⟩
        have hk := zOk_bnd ex hk
        refine zr_iinc (v := x3_55) (L' := [(0, zrf E 54), (1, .int x1_54), (2, .int x2), (3, .int x3_55)]) h 3 [1, 2, 3, 0] dX3_countHits_55 rfl (by rw [ex]; rfl) (by decide) rfl ?_
        refine zr_goto (tgt := 17) h dX3_countHits_58 (by decide) ?_
        have hk := zOk_some hk
        exact zr_weak h [0, 1, 2, 3] rfl hk
      · have hk := zOk_f c hk
        refine zr_iconst (v := (zI 1)) h dX3_countHits_48 rfl ?_
        refine zr_goto (tgt := 53) h dX3_countHits_49 (by decide) ?_
        refine zr_iadd h dX3_countHits_53 ?_
        refine zr_topi (fun x1_54 ex => ?_)
        have hk := zOk_bnd ex hk
        refine zr_istore_n (L' := [(0, zrf E 54), (1, .int x1_54), (2, .int x2), (3, .int s.2)]) h [1, 0, 2, 3] dX3_countHits_54 rfl (by decide) rfl ?_
        obtain ⟨x3_55, ex⟩ : ∃ y : Int32, y = s.2 + (zI 1) := ⟨_, rfl⟩
        have hk := zOk_bnd ex hk
        refine zr_iinc (v := x3_55) (L' := [(0, zrf E 54), (1, .int x1_54), (2, .int x2), (3, .int x3_55)]) h 3 [1, 2, 3, 0] dX3_countHits_55 rfl (by rw [ex]; rfl) (by decide) rfl ?_
        refine zr_goto (tgt := 17) h dX3_countHits_58 (by decide) ?_
        have hk := zOk_some hk
        exact zr_weak h [0, 1, 2, 3] rfl hk
noncomputable def f_X3_countHits_L4 (M : ZMem) (s : (Int32 × Int32)) : Option ((Int32 × Int32) ⊕ (Int32)) := zbind (f_X4_told M) (fun r_9 => if r_9 ≤ s.2 then some (.inr s.1) else zbind (zloop (f_X3_countHits_L17 M s.2) (s.1, (zI 0))) (fun e17 => zbnd (s.2 + (zI 1)) (fun x2_61 => some (.inl (e17, x2_61)))))
set_option maxRecDepth 100000 in
set_option maxHeartbeats 4000000 in
theorem w_X3_countHits_L4 {E : ZEv} {G : ZG} {K : Int32 → Prop} (M : ZMem) (h : zRu lyC E G (zRp M K) cX3_countHits RX3 4 (some .int) 3) (s : (Int32 × Int32)) (hk : zOk (zloop (f_X3_countHits_L4 M) s) (fun e => G M 67 [(1, .int e)] [])) : G M 4 [(0, zrf E 54), (1, .int s.1), (2, .int s.2)] [] := by
  refine zloop_walk (P := fun s => G M 4 [(0, zrf E 54), (1, .int s.1), (2, .int s.2)] []) hk (fun s hk => ?_)
  unfold f_X3_countHits_L4 at hk
  refine zr_iload_n h dX3_countHits_4 2 rfl rfl ?_
  refine zr_aload_n h dX3_countHits_5 0 rfl rfl ?_
  refine zr_getR h zfo_X3_25 lC_54 rfl dX3_countHits_6 ?_
  refine zr_callVp h lC_17 zcw_X3_50 (by decide) (c_X4_told E M _ (zOk_bind hk)) rfl rfl (Nat.le_of_ble_eq_true rfl) dX3_countHits_9 (fun r_9 hk => ?_)
  refine zr_icmp_ge (tgt := 67) h dX3_countHits_12 (by decide) (fun c => ?_) (fun c => ?_)
  · have hk := zOk_t c hk
    have hk := zOk_some hk
    exact zr_weak h [1] rfl hk
  · have hk := zOk_f c hk
    refine zr_iconst (v := (zI 0)) h dX3_countHits_15 rfl ?_
    refine zr_istore_n (L' := [(0, zrf E 54), (1, .int s.1), (2, .int s.2), (3, .int (zI 0))]) h [1, 2, 3, 0] dX3_countHits_16 rfl (by decide) rfl ?_
    refine w_X3_countHits_L17 M h s.2 (s.1, (zI 0)) (zOk_mono (zOk_bind hk) (fun e17 hk => ?_))
    obtain ⟨x2_61, ex⟩ : ∃ y : Int32, y = s.2 + (zI 1) := ⟨_, rfl⟩
    have hk := zOk_bnd ex hk
    refine zr_iinc (v := x2_61) (L' := [(0, zrf E 54), (1, .int e17), (2, .int x2_61)]) h 2 [1, 2, 0] dX3_countHits_61 rfl (by rw [ex]; rfl) (by decide) rfl ?_
    refine zr_goto (tgt := 4) h dX3_countHits_64 (by decide) ?_
    have hk := zOk_some hk
    exact zr_weak h [0, 1, 2] rfl hk
noncomputable def f_X3_countHits (M : ZMem) : Option Int32 := zbind (zloop (f_X3_countHits_L4 M) ((zI 0), (zI 0))) (fun e4 => some e4)
set_option maxRecDepth 100000 in
set_option maxHeartbeats 4000000 in
theorem c_X3_countHits (E : ZEv) (M : ZMem) (K : Int32 → Prop) (hk : zOk (f_X3_countHits M) K) : zCon lyC E yX3_countHits cX3_countHits 4 (some .int) 3 [zrf E 54] M (zRp M K) := by
  refine zcon_of (L0 := [(0, zrf E 54)]) (by decide) rfl (Nat.le_of_ble_eq_true rfl) (fun G h => ?_)
  have h : zRu lyC E G (zRp M K) cX3_countHits RX3 4 (some .int) 3 := h
  unfold f_X3_countHits at hk
  refine zr_iconst (v := (zI 0)) h dX3_countHits_0 rfl ?_
  refine zr_istore_n (L' := [(0, zrf E 54), (1, .int (zI 0))]) h [1, 0] dX3_countHits_1 rfl (by decide) rfl ?_
  refine zr_iconst (v := (zI 0)) h dX3_countHits_2 rfl ?_
  refine zr_istore_n (L' := [(0, zrf E 54), (1, .int (zI 0)), (2, .int (zI 0))]) h [1, 2, 0] dX3_countHits_3 rfl (by decide) rfl ?_
  refine w_X3_countHits_L4 M h ((zI 0), (zI 0)) (zOk_mono (zOk_bind hk) (fun e4 hk => ?_))
  refine zr_iload_n h dX3_countHits_67 0 rfl rfl ?_
  have hk := zOk_some hk
  exact zr_iret h dX3_countHits_68 ⟨rfl, _, rfl, hk⟩
theorem dX3_settle_0 : decode cX3_settle 0 = .ok (.aload_n 0, 1) := by decide +kernel
theorem dX3_settle_1 : decode cX3_settle 1 = .ok (.iconst 0, 1) := by decide +kernel
theorem dX3_settle_2 : decode cX3_settle 2 = .ok (.putfield 37, 3) := by decide +kernel
theorem dX3_settle_5 : decode cX3_settle 5 = .ok (.iconst 0, 1) := by decide +kernel
theorem dX3_settle_6 : decode cX3_settle 6 = .ok (.istore_n 1, 1) := by decide +kernel
theorem dX3_settle_7 : decode cX3_settle 7 = .ok (.iload_n 1, 1) := by decide +kernel
theorem dX3_settle_8 : decode cX3_settle 8 = .ok (.bipush 20, 2) := by decide +kernel
theorem dX3_settle_10 : decode cX3_settle 10 = .ok (.if_icmp .ge 40, 3) := by decide +kernel
theorem dX3_settle_13 : decode cX3_settle 13 = .ok (.aload_n 0, 1) := by decide +kernel
theorem dX3_settle_14 : decode cX3_settle 14 = .ok (.getfield 33, 3) := by decide +kernel
theorem dX3_settle_17 : decode cX3_settle 17 = .ok (.iload_n 1, 1) := by decide +kernel
theorem dX3_settle_18 : decode cX3_settle 18 = .ok (.invokevirtual 41, 3) := by decide +kernel
theorem dX3_settle_21 : decode cX3_settle 21 = .ok (.ifCond .eq 23, 3) := by decide +kernel
theorem dX3_settle_24 : decode cX3_settle 24 = .ok (.aload_n 0, 1) := by decide +kernel
theorem dX3_settle_25 : decode cX3_settle 25 = .ok (.getfield 22, 3) := by decide +kernel
theorem dX3_settle_28 : decode cX3_settle 28 = .ok (.aload_n 0, 1) := by decide +kernel
theorem dX3_settle_29 : decode cX3_settle 29 = .ok (.getfield 37, 3) := by decide +kernel
theorem dX3_settle_32 : decode cX3_settle 32 = .ok (.iload_n 1, 1) := by decide +kernel
theorem dX3_settle_33 : decode cX3_settle 33 = .ok (.iastore, 1) := by decide +kernel
theorem dX3_settle_34 : decode cX3_settle 34 = .ok (.aload_n 0, 1) := by decide +kernel
theorem dX3_settle_35 : decode cX3_settle 35 = .ok (.dup, 1) := by decide +kernel
theorem dX3_settle_36 : decode cX3_settle 36 = .ok (.getfield 37, 3) := by decide +kernel
theorem dX3_settle_39 : decode cX3_settle 39 = .ok (.iconst 1, 1) := by decide +kernel
theorem dX3_settle_40 : decode cX3_settle 40 = .ok (.iadd, 1) := by decide +kernel
theorem dX3_settle_41 : decode cX3_settle 41 = .ok (.putfield 37, 3) := by decide +kernel
theorem dX3_settle_44 : decode cX3_settle 44 = .ok (.iinc 1 1, 3) := by decide +kernel
theorem dX3_settle_47 : decode cX3_settle 47 = .ok (.goto (-40), 3) := by decide +kernel
theorem dX3_settle_50 : decode cX3_settle 50 = .ok (.aload_n 0, 1) := by decide +kernel
theorem dX3_settle_51 : decode cX3_settle 51 = .ok (.invokevirtual 47, 3) := by decide +kernel
theorem dX3_settle_54 : decode cX3_settle 54 = .ok (.iconst 0, 1) := by decide +kernel
theorem dX3_settle_55 : decode cX3_settle 55 = .ok (.istore_n 1, 1) := by decide +kernel
theorem dX3_settle_56 : decode cX3_settle 56 = .ok (.iload_n 1, 1) := by decide +kernel
theorem dX3_settle_57 : decode cX3_settle 57 = .ok (.aload_n 0, 1) := by decide +kernel
theorem dX3_settle_58 : decode cX3_settle 58 = .ok (.getfield 25, 3) := by decide +kernel
theorem dX3_settle_61 : decode cX3_settle 61 = .ok (.invokevirtual 50, 3) := by decide +kernel
theorem dX3_settle_64 : decode cX3_settle 64 = .ok (.if_icmp .ge 71, 3) := by decide +kernel
theorem dX3_settle_67 : decode cX3_settle 67 = .ok (.iconst 0, 1) := by decide +kernel
theorem dX3_settle_68 : decode cX3_settle 68 = .ok (.istore_n 2, 1) := by decide +kernel
theorem dX3_settle_69 : decode cX3_settle 69 = .ok (.iload_n 2, 1) := by decide +kernel
theorem dX3_settle_70 : decode cX3_settle 70 = .ok (.aload_n 0, 1) := by decide +kernel
theorem dX3_settle_71 : decode cX3_settle 71 = .ok (.getfield 29, 3) := by decide +kernel
theorem dX3_settle_74 : decode cX3_settle 74 = .ok (.invokevirtual 56, 3) := by decide +kernel
theorem dX3_settle_77 : decode cX3_settle 77 = .ok (.if_icmp .ge 52, 3) := by decide +kernel
theorem dX3_settle_80 : decode cX3_settle 80 = .ok (.iload_n 1, 1) := by decide +kernel
theorem dX3_settle_81 : decode cX3_settle 81 = .ok (.iload_n 2, 1) := by decide +kernel
theorem dX3_settle_82 : decode cX3_settle 82 = .ok (.invokestatic 61, 3) := by decide +kernel
theorem dX3_settle_85 : decode cX3_settle 85 = .ok (.ifCond .eq 38, 3) := by decide +kernel
theorem dX3_settle_88 : decode cX3_settle 88 = .ok (.aload_n 0, 1) := by decide +kernel
theorem dX3_settle_89 : decode cX3_settle 89 = .ok (.getfield 9, 3) := by decide +kernel
theorem dX3_settle_92 : decode cX3_settle 92 = .ok (.iload_n 1, 1) := by decide +kernel
theorem dX3_settle_93 : decode cX3_settle 93 = .ok (.bipush 120, 2) := by decide +kernel
theorem dX3_settle_95 : decode cX3_settle 95 = .ok (.imul, 1) := by decide +kernel
theorem dX3_settle_96 : decode cX3_settle 96 = .ok (.iload_n 2, 1) := by decide +kernel
theorem dX3_settle_97 : decode cX3_settle 97 = .ok (.iadd, 1) := by decide +kernel
theorem dX3_settle_98 : decode cX3_settle 98 = .ok (.aload_n 0, 1) := by decide +kernel
theorem dX3_settle_99 : decode cX3_settle 99 = .ok (.iload_n 1, 1) := by decide +kernel
theorem dX3_settle_100 : decode cX3_settle 100 = .ok (.iload_n 2, 1) := by decide +kernel
theorem dX3_settle_101 : decode cX3_settle 101 = .ok (.iconst 0, 1) := by decide +kernel
theorem dX3_settle_102 : decode cX3_settle 102 = .ok (.invokevirtual 65, 3) := by decide +kernel
theorem dX3_settle_105 : decode cX3_settle 105 = .ok (.ifCond .eq 16, 3) := by decide +kernel
theorem dX3_settle_108 : decode cX3_settle 108 = .ok (.aload_n 0, 1) := by decide +kernel
theorem dX3_settle_109 : decode cX3_settle 109 = .ok (.iload_n 1, 1) := by decide +kernel
theorem dX3_settle_110 : decode cX3_settle 110 = .ok (.iload_n 2, 1) := by decide +kernel
theorem dX3_settle_111 : decode cX3_settle 111 = .ok (.invokevirtual 69, 3) := by decide +kernel
theorem dX3_settle_114 : decode cX3_settle 114 = .ok (.ifCond .eq 7, 3) := by decide +kernel
theorem dX3_settle_117 : decode cX3_settle 117 = .ok (.iconst 1, 1) := by decide +kernel
theorem dX3_settle_118 : decode cX3_settle 118 = .ok (.goto 4, 3) := by decide +kernel
theorem dX3_settle_121 : decode cX3_settle 121 = .ok (.iconst 0, 1) := by decide +kernel
theorem dX3_settle_122 : decode cX3_settle 122 = .ok (.bastore, 1) := by decide +kernel
theorem dX3_settle_123 : decode cX3_settle 123 = .ok (.iinc 2 1, 3) := by decide +kernel
theorem dX3_settle_126 : decode cX3_settle 126 = .ok (.goto (-57), 3) := by decide +kernel
theorem dX3_settle_129 : decode cX3_settle 129 = .ok (.iinc 1 1, 3) := by decide +kernel
theorem dX3_settle_132 : decode cX3_settle 132 = .ok (.goto (-76), 3) := by decide +kernel
theorem dX3_settle_135 : decode cX3_settle 135 = .ok (.aload_n 0, 1) := by decide +kernel
theorem dX3_settle_136 : decode cX3_settle 136 = .ok (.aload_n 0, 1) := by decide +kernel
theorem dX3_settle_137 : decode cX3_settle 137 = .ok (.invokevirtual 72, 3) := by decide +kernel
theorem dX3_settle_140 : decode cX3_settle 140 = .ok (.putfield 75, 3) := by decide +kernel
theorem dX3_settle_143 : decode cX3_settle 143 = .ok (.return_, 1) := by decide +kernel
noncomputable def f_X3_settle_L7 (s : (ZMem × Int32)) : Option ((ZMem × Int32) ⊕ (ZMem)) := if (zI 20) ≤ s.2 then some (.inr s.1) else zbind (f_X9_bothKnown s.1 s.2) (fun r_18 => if r_18 = (zI 0) then zbnd (s.2 + (zI 1)) (fun x1_44 => some (.inl (s.1, x1_44))) else zchk (zin (s.1.1 54 7) 20) (zbnd (zstI s.1 58 (zix (s.1.1 54 7)) s.2) (fun M_33 => zbnd (zstI M_33 54 7 ((M_33.1 54 7) + (zI 1))) (fun M_41 => zbnd (s.2 + (zI 1)) (fun x1_44 => some (.inl (M_41, x1_44)))))))
set_option maxRecDepth 100000 in
set_option maxHeartbeats 4000000 in
theorem w_X3_settle_L7 {E : ZEv} {G : ZG} {K : ZMem → Prop} (h : zRu lyC E G (zRv K) cX3_settle RX3 3 none 4) (s : (ZMem × Int32)) (hk : zOk (zloop (f_X3_settle_L7) s) (fun e => G e 50 [(0, zrf E 54)] [])) : G s.1 7 [(0, zrf E 54), (1, .int s.2)] [] := by
  refine zloop_walk (P := fun s => G s.1 7 [(0, zrf E 54), (1, .int s.2)] []) hk (fun s hk => ?_)
  unfold f_X3_settle_L7 at hk
  refine zr_iload_n h dX3_settle_7 1 rfl rfl ?_
  refine zr_bipush (v := (zI 20)) h dX3_settle_8 (by decide) ?_
  refine zr_icmp_ge (tgt := 50) h dX3_settle_10 (by decide) (fun c => ?_) (fun c => ?_)
  · have hk := zOk_t c hk
    have hk := zOk_some hk
    exact zr_weak h [0] rfl hk
  · have hk := zOk_f c hk
    refine zr_aload_n h dX3_settle_13 0 rfl rfl ?_
    refine zr_getR h zfo_X3_33 lC_54 rfl dX3_settle_14 ?_
    refine zr_iload_n h dX3_settle_17 1 rfl rfl ?_
    refine zr_callVp h lC_49 zcw_X3_41 (by decide) (c_X9_bothKnown E s.1 s.2 _ (zOk_bind hk)) rfl rfl (Nat.le_of_ble_eq_true rfl) dX3_settle_18 (fun r_18 hk => ?_)
    refine zr_if_eq (tgt := 44) h dX3_settle_21 (by decide) (fun c => ?_) (fun c => ?_)
    · have hk := zOk_t c hk
      obtain ⟨x1_44, ex⟩ : ∃ y : Int32, y = s.2 + (zI 1) := ⟨_, rfl⟩
      have hk := zOk_bnd ex hk
      refine zr_iinc (v := x1_44) (L' := [(0, zrf E 54), (1, .int x1_44)]) h 1 [1, 0] dX3_settle_44 rfl (by rw [ex]; rfl) (by decide) rfl ?_
      refine zr_goto (tgt := 7) h dX3_settle_47 (by decide) ?_
      have hk := zOk_some hk
      exact zr_weak h [0, 1] rfl hk
    · have hk := zOk_f c hk
      refine zr_aload_n h dX3_settle_24 0 rfl rfl ?_
      refine zr_getR h zfo_X3_22 lC_54 rfl dX3_settle_25 ?_
      refine zr_aload_n h dX3_settle_28 0 rfl rfl ?_
      refine zr_getI h zfo_X3_37 lC_54 rfl dX3_settle_29 ?_
      refine zr_iload_n h dX3_settle_32 1 rfl rfl ?_
      have hb := zOk_chk hk
      have hk := hb.2
      refine zr_iast h lC_58 hb.1 dX3_settle_33 ?_
      refine zr_mem (fun M_33 eM => ?_)
      have hk := zOk_bnd eM hk
      refine zr_aload_n h dX3_settle_34 0 rfl rfl ?_
      refine zr_dup h dX3_settle_35 rfl ?_
      refine zr_getI h zfo_X3_37 lC_54 rfl dX3_settle_36 ?_
      refine zr_iconst (v := (zI 1)) h dX3_settle_39 rfl ?_
      refine zr_iadd h dX3_settle_40 ?_
      refine zr_putI h zfp_X3_37 lC_54 rfl dX3_settle_41 ?_
      refine zr_mem (fun M_41 eM => ?_)
      have hk := zOk_bnd eM hk
      obtain ⟨x1_44, ex⟩ : ∃ y : Int32, y = s.2 + (zI 1) := ⟨_, rfl⟩
      have hk := zOk_bnd ex hk
      refine zr_iinc (v := x1_44) (L' := [(0, zrf E 54), (1, .int x1_44)]) h 1 [1, 0] dX3_settle_44 rfl (by rw [ex]; rfl) (by decide) rfl ?_
      refine zr_goto (tgt := 7) h dX3_settle_47 (by decide) ?_
      have hk := zOk_some hk
      exact zr_weak h [0, 1] rfl hk
noncomputable def f_X3_settle_122_L69 (M : ZMem) (x1 : Int32) (x2 : Int32) (v1 : Int32) (v2 : Int32) : Option ((ZMem × Int32) ⊕ (ZMem)) := zchk (zin v1 480) (zbnd (zstI M 55 (zix v1) (vp_nar .boolean v2)) (fun M_122 => zbnd (x2 + (zI 1)) (fun x2_123 => some (.inl (M_122, x2_123)))))
set_option maxRecDepth 100000 in
set_option maxHeartbeats 4000000 in
theorem w_X3_settle_122_L69 {E : ZEv} {G : ZG} {K : ZMem → Prop} (h : zRu lyC E G (zRv K) cX3_settle RX3 3 none 4) (M : ZMem) (x1 : Int32) (x2 : Int32) (v1 : Int32) (v2 : Int32) (hk : zOk (f_X3_settle_122_L69 M x1 x2 v1 v2) (zlp (fun s => G s.1 69 [(0, zrf E 54), (1, .int x1), (2, .int s.2)] []) (fun e => G e 129 [(0, zrf E 54), (1, .int x1)] []))) : G M 122 [(0, zrf E 54), (1, .int x1), (2, .int x2)] [.int v2, .int v1, zrf E 55] := by
  unfold f_X3_settle_122_L69 at hk
  have hb := zOk_chk hk
  have hk := hb.2
  refine zr_zast h lC_55 hb.1 dX3_settle_122 ?_
  refine zr_mem (fun M_122 eM => ?_)
  have hk := zOk_bnd eM hk
  obtain ⟨x2_123, ex⟩ : ∃ y : Int32, y = x2 + (zI 1) := ⟨_, rfl⟩
  have hk := zOk_bnd ex hk
  refine zr_iinc (v := x2_123) (L' := [(0, zrf E 54), (1, .int x1), (2, .int x2_123)]) h 2 [1, 2, 0] dX3_settle_123 rfl (by rw [ex]; rfl) (by decide) rfl ?_
  refine zr_goto (tgt := 69) h dX3_settle_126 (by decide) ?_
  have hk := zOk_some hk
  exact zr_weak h [0, 1, 2] rfl hk
noncomputable def f_X3_settle_121_L69 (M : ZMem) (x1 : Int32) (x2 : Int32) (v1 : Int32) : Option ((ZMem × Int32) ⊕ (ZMem)) := f_X3_settle_122_L69 M x1 x2 v1 (zI 0)
set_option maxRecDepth 100000 in
set_option maxHeartbeats 4000000 in
theorem w_X3_settle_121_L69 {E : ZEv} {G : ZG} {K : ZMem → Prop} (h : zRu lyC E G (zRv K) cX3_settle RX3 3 none 4) (M : ZMem) (x1 : Int32) (x2 : Int32) (v1 : Int32) (hk : zOk (f_X3_settle_121_L69 M x1 x2 v1) (zlp (fun s => G s.1 69 [(0, zrf E 54), (1, .int x1), (2, .int s.2)] []) (fun e => G e 129 [(0, zrf E 54), (1, .int x1)] []))) : G M 121 [(0, zrf E 54), (1, .int x1), (2, .int x2)] [.int v1, zrf E 55] := by
  unfold f_X3_settle_121_L69 at hk
  refine zr_iconst (v := (zI 0)) h dX3_settle_121 rfl ?_
  exact w_X3_settle_122_L69 h M x1 x2 v1 (zI 0) hk
noncomputable def f_X3_settle_L69 (x1 : Int32) (s : (ZMem × Int32)) : Option ((ZMem × Int32) ⊕ (ZMem)) := zbind (f_X2_held s.1) (fun r_74 => if r_74 ≤ s.2 then some (.inr s.1) else zbind (f_X3_isPlace s.1 x1 s.2) (fun r_82 => if r_82 = (zI 0) then zbnd (s.2 + (zI 1)) (fun x2_123 => some (.inl (s.1, x2_123))) else zbind (f_X3_agrees s.1 x1 s.2 (zI 0)) (fun r_102 => if r_102 = (zI 0) then f_X3_settle_121_L69 s.1 x1 s.2 ((x1 * (zI 120)) + s.2) else zbind (f_X3_hasShape s.1 x1 s.2) (fun r_111 => if r_111 = (zI 0) then f_X3_settle_121_L69 s.1 x1 s.2 ((x1 * (zI 120)) + s.2) else f_X3_settle_122_L69 s.1 x1 s.2 ((x1 * (zI 120)) + s.2) (zI 1)))))
set_option maxRecDepth 100000 in
set_option maxHeartbeats 4000000 in
theorem w_X3_settle_L69 {E : ZEv} {G : ZG} {K : ZMem → Prop} (h : zRu lyC E G (zRv K) cX3_settle RX3 3 none 4) (x1 : Int32) (s : (ZMem × Int32)) (hk : zOk (zloop (f_X3_settle_L69 x1) s) (fun e => G e 129 [(0, zrf E 54), (1, .int x1)] [])) : G s.1 69 [(0, zrf E 54), (1, .int x1), (2, .int s.2)] [] := by
  refine zloop_walk (P := fun s => G s.1 69 [(0, zrf E 54), (1, .int x1), (2, .int s.2)] []) hk (fun s hk => ?_)
  unfold f_X3_settle_L69 at hk
  refine zr_iload_n h dX3_settle_69 2 rfl rfl ?_
  refine zr_aload_n h dX3_settle_70 0 rfl rfl ?_
  refine zr_getR h zfo_X3_29 lC_54 rfl dX3_settle_71 ?_
  refine zr_callVp h lC_34 zcw_X3_56 (by decide) (c_X2_held E s.1 _ (zOk_bind hk)) rfl rfl (Nat.le_of_ble_eq_true rfl) dX3_settle_74 (fun r_74 hk => ?_)
  refine zr_icmp_ge (tgt := 129) h dX3_settle_77 (by decide) (fun c => ?_) (fun c => ?_)
  · have hk := zOk_t c hk
    have hk := zOk_some hk
    exact zr_weak h [0, 1] rfl hk
  · have hk := zOk_f c hk
    refine zr_iload_n h dX3_settle_80 1 rfl rfl ?_
    refine zr_iload_n h dX3_settle_81 2 rfl rfl ?_
    refine zr_callSp h zcw_X3_61 (by decide) (c_X3_isPlace E s.1 x1 s.2 _ (zOk_bind hk)) rfl rfl (Nat.le_of_ble_eq_true rfl) dX3_settle_82 (fun r_82 hk => ?_)
    refine zr_if_eq (tgt := 123) h dX3_settle_85 (by decide) (fun c => ?_) (fun c => ?_)
    · have hk := zOk_t c hk
      obtain ⟨x2_123, ex⟩ : ∃ y : Int32, y = s.2 + (zI 1) := ⟨_, rfl⟩
      have hk := zOk_bnd ex hk
      refine zr_iinc (v := x2_123) (L' := [(0, zrf E 54), (1, .int x1), (2, .int x2_123)]) h 2 [1, 2, 0] dX3_settle_123 rfl (by rw [ex]; rfl) (by decide) rfl ?_
      refine zr_goto (tgt := 69) h dX3_settle_126 (by decide) ?_
      have hk := zOk_some hk
      exact zr_weak h [0, 1, 2] rfl hk
    · have hk := zOk_f c hk
      refine zr_aload_n h dX3_settle_88 0 rfl rfl ?_
      refine zr_getR h zfo_X3_9 lC_54 rfl dX3_settle_89 ?_
      refine zr_iload_n h dX3_settle_92 1 rfl rfl ?_
      refine zr_bipush (v := (zI 120)) h dX3_settle_93 (by decide) ?_
      refine zr_imul h dX3_settle_95 ?_
      refine zr_iload_n h dX3_settle_96 2 rfl rfl ?_
      refine zr_iadd h dX3_settle_97 ?_
      refine zr_aload_n h dX3_settle_98 0 rfl rfl ?_
      refine zr_iload_n h dX3_settle_99 1 rfl rfl ?_
      refine zr_iload_n h dX3_settle_100 2 rfl rfl ?_
      refine zr_iconst (v := (zI 0)) h dX3_settle_101 rfl ?_
      refine zr_callVp h lC_54 zcw_X3_65 (by decide) (c_X3_agrees E s.1 x1 s.2 (zI 0) _ (zOk_bind hk)) rfl rfl (Nat.le_of_ble_eq_true rfl) dX3_settle_102 (fun r_102 hk => ?_)
      refine zr_if_eq (tgt := 121) h dX3_settle_105 (by decide) (fun c => ?_) (fun c => ?_)
      · have hk := zOk_t c hk
        exact w_X3_settle_121_L69 h s.1 x1 s.2 ((x1 * (zI 120)) + s.2) hk
      · have hk := zOk_f c hk
        refine zr_aload_n h dX3_settle_108 0 rfl rfl ?_
        refine zr_iload_n h dX3_settle_109 1 rfl rfl ?_
        refine zr_iload_n h dX3_settle_110 2 rfl rfl ?_
        refine zr_callVp h lC_54 zcw_X3_69 (by decide) (c_X3_hasShape E s.1 x1 s.2 _ (zOk_bind hk)) rfl rfl (Nat.le_of_ble_eq_true rfl) dX3_settle_111 (fun r_111 hk => ?_)
        refine zr_if_eq (tgt := 121) h dX3_settle_114 (by decide) (fun c => ?_) (fun c => ?_)
        · have hk := zOk_t c hk
          exact w_X3_settle_121_L69 h s.1 x1 s.2 ((x1 * (zI 120)) + s.2) hk
        · have hk := zOk_f c hk
          refine zr_iconst (v := (zI 1)) h dX3_settle_117 rfl ?_
          refine zr_goto (tgt := 122) h dX3_settle_118 (by decide) ?_
          exact w_X3_settle_122_L69 h s.1 x1 s.2 ((x1 * (zI 120)) + s.2) (zI 1) hk
noncomputable def f_X3_settle_L56 (s : (ZMem × Int32)) : Option ((ZMem × Int32) ⊕ (ZMem)) := zbind (f_X4_told s.1) (fun r_61 => if r_61 ≤ s.2 then some (.inr s.1) else zbind (zloop (f_X3_settle_L69 s.2) (s.1, (zI 0))) (fun e69 => zbnd (s.2 + (zI 1)) (fun x1_129 => some (.inl (e69, x1_129)))))
set_option maxRecDepth 100000 in
set_option maxHeartbeats 4000000 in
theorem w_X3_settle_L56 {E : ZEv} {G : ZG} {K : ZMem → Prop} (h : zRu lyC E G (zRv K) cX3_settle RX3 3 none 4) (s : (ZMem × Int32)) (hk : zOk (zloop (f_X3_settle_L56) s) (fun e => G e 135 [(0, zrf E 54)] [])) : G s.1 56 [(0, zrf E 54), (1, .int s.2)] [] := by
  refine zloop_walk (P := fun s => G s.1 56 [(0, zrf E 54), (1, .int s.2)] []) hk (fun s hk => ?_)
  unfold f_X3_settle_L56 at hk
  refine zr_iload_n h dX3_settle_56 1 rfl rfl ?_
  refine zr_aload_n h dX3_settle_57 0 rfl rfl ?_
  refine zr_getR h zfo_X3_25 lC_54 rfl dX3_settle_58 ?_
  refine zr_callVp h lC_17 zcw_X3_50 (by decide) (c_X4_told E s.1 _ (zOk_bind hk)) rfl rfl (Nat.le_of_ble_eq_true rfl) dX3_settle_61 (fun r_61 hk => ?_)
  refine zr_icmp_ge (tgt := 135) h dX3_settle_64 (by decide) (fun c => ?_) (fun c => ?_)
  · have hk := zOk_t c hk
    have hk := zOk_some hk
    exact zr_weak h [0] rfl hk
  · have hk := zOk_f c hk
    refine zr_iconst (v := (zI 0)) h dX3_settle_67 rfl ?_
    refine zr_istore_n (L' := [(0, zrf E 54), (1, .int s.2), (2, .int (zI 0))]) h [1, 2, 0] dX3_settle_68 rfl (by decide) rfl ?_
    refine w_X3_settle_L69 h s.2 (s.1, (zI 0)) (zOk_mono (zOk_bind hk) (fun e69 hk => ?_))
    obtain ⟨x1_129, ex⟩ : ∃ y : Int32, y = s.2 + (zI 1) := ⟨_, rfl⟩
    have hk := zOk_bnd ex hk
    refine zr_iinc (v := x1_129) (L' := [(0, zrf E 54), (1, .int x1_129)]) h 1 [1, 0] dX3_settle_129 rfl (by rw [ex]; rfl) (by decide) rfl ?_
    refine zr_goto (tgt := 56) h dX3_settle_132 (by decide) ?_
    have hk := zOk_some hk
    exact zr_weak h [0, 1] rfl hk
noncomputable def f_X3_settle (M : ZMem) : Option ZMem := zbnd (zstI M 54 7 (zI 0)) (fun M_2 => zbind (zloop (f_X3_settle_L7) (M_2, (zI 0))) (fun e7 => zbind (f_X3_takeKnown e7) (fun M_51 => zbind (zloop (f_X3_settle_L56) (M_51, (zI 0))) (fun e56 => zbind (f_X3_countHits e56) (fun r_137 => zbnd (zstI e56 54 8 r_137) (fun M_140 => some M_140))))))
set_option maxRecDepth 100000 in
set_option maxHeartbeats 4000000 in
theorem c_X3_settle (E : ZEv) (M : ZMem) (K : ZMem → Prop) (hk : zOk (f_X3_settle M) K) : zCon lyC E yX3_settle cX3_settle 3 none 4 [zrf E 54] M (zRv K) := by
  refine zcon_of (L0 := [(0, zrf E 54)]) (by decide) rfl (Nat.le_of_ble_eq_true rfl) (fun G h => ?_)
  have h : zRu lyC E G (zRv K) cX3_settle RX3 3 none 4 := h
  unfold f_X3_settle at hk
  refine zr_aload_n h dX3_settle_0 0 rfl rfl ?_
  refine zr_iconst (v := (zI 0)) h dX3_settle_1 rfl ?_
  refine zr_putI h zfp_X3_37 lC_54 rfl dX3_settle_2 ?_
  refine zr_mem (fun M_2 eM => ?_)
  have hk := zOk_bnd eM hk
  refine zr_iconst (v := (zI 0)) h dX3_settle_5 rfl ?_
  refine zr_istore_n (L' := [(0, zrf E 54), (1, .int (zI 0))]) h [1, 0] dX3_settle_6 rfl (by decide) rfl ?_
  refine w_X3_settle_L7 h (M_2, (zI 0)) (zOk_mono (zOk_bind hk) (fun e7 hk => ?_))
  refine zr_aload_n h dX3_settle_50 0 rfl rfl ?_
  refine zr_callVv h lC_54 zcw_X3_47 (by decide) (c_X3_takeKnown E e7 _ (zOk_bind hk)) rfl rfl (Nat.le_of_ble_eq_true rfl) dX3_settle_51 (fun M_51 hk => ?_)
  refine zr_iconst (v := (zI 0)) h dX3_settle_54 rfl ?_
  refine zr_istore_n (L' := [(0, zrf E 54), (1, .int (zI 0))]) h [1, 0] dX3_settle_55 rfl (by decide) rfl ?_
  refine w_X3_settle_L56 h (M_51, (zI 0)) (zOk_mono (zOk_bind hk) (fun e56 hk => ?_))
  refine zr_aload_n h dX3_settle_135 0 rfl rfl ?_
  refine zr_aload_n h dX3_settle_136 0 rfl rfl ?_
  refine zr_callVp h lC_54 zcw_X3_72 (by decide) (c_X3_countHits E e56 _ (zOk_bind hk)) rfl rfl (Nat.le_of_ble_eq_true rfl) dX3_settle_137 (fun r_137 hk => ?_)
  refine zr_putI h zfp_X3_75 lC_54 rfl dX3_settle_140 ?_
  refine zr_mem (fun M_140 eM => ?_)
  have hk := zOk_bnd eM hk
  have hk := zOk_some hk
  exact zr_vret h dX3_settle_143 ⟨rfl, hk⟩
theorem dX3_hitsNow_0 : decode cX3_hitsNow 0 = .ok (.aload_n 0, 1) := by decide +kernel
theorem dX3_hitsNow_1 : decode cX3_hitsNow 1 = .ok (.getfield 75, 3) := by decide +kernel
theorem dX3_hitsNow_4 : decode cX3_hitsNow 4 = .ok (.ireturn, 1) := by decide +kernel
noncomputable def f_X3_hitsNow (M : ZMem) : Option Int32 := some (M.1 54 8)
set_option maxRecDepth 100000 in
set_option maxHeartbeats 4000000 in
theorem c_X3_hitsNow (E : ZEv) (M : ZMem) (K : Int32 → Prop) (hk : zOk (f_X3_hitsNow M) K) : zCon lyC E yX3_hitsNow cX3_hitsNow 1 (some .int) 0 [zrf E 54] M (zRp M K) := by
  refine zcon_of (L0 := [(0, zrf E 54)]) (by decide) rfl (Nat.le_of_ble_eq_true rfl) (fun G h => ?_)
  have h : zRu lyC E G (zRp M K) cX3_hitsNow RX3 1 (some .int) 0 := h
  unfold f_X3_hitsNow at hk
  refine zr_aload_n h dX3_hitsNow_0 0 rfl rfl ?_
  refine zr_getI h zfo_X3_75 lC_54 rfl dX3_hitsNow_1 ?_
  have hk := zOk_some hk
  exact zr_iret h dX3_hitsNow_4 ⟨rfl, _, rfl, hk⟩
theorem dX3_isFitting_0 : decode cX3_isFitting 0 = .ok (.iload_n 1, 1) := by decide +kernel
theorem dX3_isFitting_1 : decode cX3_isFitting 1 = .ok (.iload_n 2, 1) := by decide +kernel
theorem dX3_isFitting_2 : decode cX3_isFitting 2 = .ok (.invokestatic 61, 3) := by decide +kernel
theorem dX3_isFitting_5 : decode cX3_isFitting 5 = .ok (.ifCond .eq 21, 3) := by decide +kernel
theorem dX3_isFitting_8 : decode cX3_isFitting 8 = .ok (.aload_n 0, 1) := by decide +kernel
theorem dX3_isFitting_9 : decode cX3_isFitting 9 = .ok (.getfield 9, 3) := by decide +kernel
theorem dX3_isFitting_12 : decode cX3_isFitting 12 = .ok (.iload_n 1, 1) := by decide +kernel
theorem dX3_isFitting_13 : decode cX3_isFitting 13 = .ok (.bipush 120, 2) := by decide +kernel
theorem dX3_isFitting_15 : decode cX3_isFitting 15 = .ok (.imul, 1) := by decide +kernel
theorem dX3_isFitting_16 : decode cX3_isFitting 16 = .ok (.iload_n 2, 1) := by decide +kernel
theorem dX3_isFitting_17 : decode cX3_isFitting 17 = .ok (.iadd, 1) := by decide +kernel
theorem dX3_isFitting_18 : decode cX3_isFitting 18 = .ok (.baload, 1) := by decide +kernel
theorem dX3_isFitting_19 : decode cX3_isFitting 19 = .ok (.ifCond .eq 7, 3) := by decide +kernel
theorem dX3_isFitting_22 : decode cX3_isFitting 22 = .ok (.iconst 1, 1) := by decide +kernel
theorem dX3_isFitting_23 : decode cX3_isFitting 23 = .ok (.goto 4, 3) := by decide +kernel
theorem dX3_isFitting_26 : decode cX3_isFitting 26 = .ok (.iconst 0, 1) := by decide +kernel
theorem dX3_isFitting_27 : decode cX3_isFitting 27 = .ok (.ireturn, 1) := by decide +kernel
noncomputable def f_X3_isFitting (M : ZMem) (x1 : Int32) (x2 : Int32) : Option Int32 := zbind (f_X3_isPlace M x1 x2) (fun r_2 => if r_2 = (zI 0) then some (zI 0) else zchk (zin ((x1 * (zI 120)) + x2) 480) (if (M.1 55 (zix ((x1 * (zI 120)) + x2))) = (zI 0) then some (zI 0) else some (zI 1)))
set_option maxRecDepth 100000 in
set_option maxHeartbeats 4000000 in
theorem c_X3_isFitting (E : ZEv) (M : ZMem) (x1 : Int32) (x2 : Int32) (K : Int32 → Prop) (hk : zOk (f_X3_isFitting M x1 x2) K) : zCon lyC E yX3_isFitting cX3_isFitting 3 (some .boolean) 1 [zrf E 54, .int x1, .int x2] M (zRp M K) := by
  refine zcon_of (L0 := [(0, zrf E 54), (1, .int x1), (2, .int x2)]) (by decide) rfl (Nat.le_of_ble_eq_true rfl) (fun G h => ?_)
  have h : zRu lyC E G (zRp M K) cX3_isFitting RX3 3 (some .boolean) 1 := h
  unfold f_X3_isFitting at hk
  refine zr_iload_n h dX3_isFitting_0 1 rfl rfl ?_
  refine zr_iload_n h dX3_isFitting_1 2 rfl rfl ?_
  refine zr_callSp h zcw_X3_61 (by decide) (c_X3_isPlace E M x1 x2 _ (zOk_bind hk)) rfl rfl (Nat.le_of_ble_eq_true rfl) dX3_isFitting_2 (fun r_2 hk => ?_)
  refine zr_if_eq (tgt := 26) h dX3_isFitting_5 (by decide) (fun c => ?_) (fun c => ?_)
  · have hk := zOk_t c hk
    refine zr_iconst (v := (zI 0)) h dX3_isFitting_26 rfl ?_
    have hk := zOk_some hk
    exact zr_zret h dX3_isFitting_27 (by decide) ⟨rfl, _, rfl, hk⟩
  · have hk := zOk_f c hk
    refine zr_aload_n h dX3_isFitting_8 0 rfl rfl ?_
    refine zr_getR h zfo_X3_9 lC_54 rfl dX3_isFitting_9 ?_
    refine zr_iload_n h dX3_isFitting_12 1 rfl rfl ?_
    refine zr_bipush (v := (zI 120)) h dX3_isFitting_13 (by decide) ?_
    refine zr_imul h dX3_isFitting_15 ?_
    refine zr_iload_n h dX3_isFitting_16 2 rfl rfl ?_
    refine zr_iadd h dX3_isFitting_17 ?_
    have hb := zOk_chk hk
    have hk := hb.2
    refine zr_zald h lC_55 hb.1 dX3_isFitting_18 ?_
    refine zr_if_eq (tgt := 26) h dX3_isFitting_19 (by decide) (fun c => ?_) (fun c => ?_)
    · have hk := zOk_t c hk
      refine zr_iconst (v := (zI 0)) h dX3_isFitting_26 rfl ?_
      have hk := zOk_some hk
      exact zr_zret h dX3_isFitting_27 (by decide) ⟨rfl, _, rfl, hk⟩
    · have hk := zOk_f c hk
      refine zr_iconst (v := (zI 1)) h dX3_isFitting_22 rfl ?_
      refine zr_goto (tgt := 27) h dX3_isFitting_23 (by decide) ?_
      have hk := zOk_some hk
      exact zr_zret h dX3_isFitting_27 (by decide) ⟨rfl, _, rfl, hk⟩
theorem dX3_fitting_0 : decode cX3_fitting 0 = .ok (.iconst 0, 1) := by decide +kernel
theorem dX3_fitting_1 : decode cX3_fitting 1 = .ok (.istore_n 2, 1) := by decide +kernel
theorem dX3_fitting_2 : decode cX3_fitting 2 = .ok (.iconst 0, 1) := by decide +kernel
theorem dX3_fitting_3 : decode cX3_fitting 3 = .ok (.istore_n 3, 1) := by decide +kernel
theorem dX3_fitting_4 : decode cX3_fitting 4 = .ok (.iload_n 3, 1) := by decide +kernel
theorem dX3_fitting_5 : decode cX3_fitting 5 = .ok (.aload_n 0, 1) := by decide +kernel
theorem dX3_fitting_6 : decode cX3_fitting 6 = .ok (.getfield 29, 3) := by decide +kernel
theorem dX3_fitting_9 : decode cX3_fitting 9 = .ok (.invokevirtual 56, 3) := by decide +kernel
theorem dX3_fitting_12 : decode cX3_fitting 12 = .ok (.if_icmp .ge 26, 3) := by decide +kernel
theorem dX3_fitting_15 : decode cX3_fitting 15 = .ok (.iload_n 2, 1) := by decide +kernel
theorem dX3_fitting_16 : decode cX3_fitting 16 = .ok (.aload_n 0, 1) := by decide +kernel
theorem dX3_fitting_17 : decode cX3_fitting 17 = .ok (.iload_n 1, 1) := by decide +kernel
theorem dX3_fitting_18 : decode cX3_fitting 18 = .ok (.iload_n 3, 1) := by decide +kernel
theorem dX3_fitting_19 : decode cX3_fitting 19 = .ok (.invokevirtual 99, 3) := by decide +kernel
theorem dX3_fitting_22 : decode cX3_fitting 22 = .ok (.ifCond .eq 7, 3) := by decide +kernel
theorem dX3_fitting_25 : decode cX3_fitting 25 = .ok (.iconst 1, 1) := by decide +kernel
theorem dX3_fitting_26 : decode cX3_fitting 26 = .ok (.goto 4, 3) := by decide +kernel
theorem dX3_fitting_29 : decode cX3_fitting 29 = .ok (.iconst 0, 1) := by decide +kernel
theorem dX3_fitting_30 : decode cX3_fitting 30 = .ok (.iadd, 1) := by decide +kernel
theorem dX3_fitting_31 : decode cX3_fitting 31 = .ok (.istore_n 2, 1) := by decide +kernel
theorem dX3_fitting_32 : decode cX3_fitting 32 = .ok (.iinc 3 1, 3) := by decide +kernel
theorem dX3_fitting_35 : decode cX3_fitting 35 = .ok (.goto (-31), 3) := by decide +kernel
theorem dX3_fitting_38 : decode cX3_fitting 38 = .ok (.iload_n 2, 1) := by decide +kernel
theorem dX3_fitting_39 : decode cX3_fitting 39 = .ok (.ireturn, 1) := by decide +kernel
noncomputable def f_X3_fitting_L4 (M : ZMem) (x1 : Int32) (s : (Int32 × Int32)) : Option ((Int32 × Int32) ⊕ (Int32)) := zbind (f_X2_held M) (fun r_9 => if r_9 ≤ s.2 then some (.inr s.1) else zbind (f_X3_isFitting M x1 s.2) (fun r_19 => if r_19 = (zI 0) then zbnd (s.1 + (zI 0)) (fun x2_31 => zbnd (s.2 + (zI 1)) (fun x3_32 => some (.inl (x2_31, x3_32)))) else zbnd (s.1 + (zI 1)) (fun x2_31 => zbnd (s.2 + (zI 1)) (fun x3_32 => some (.inl (x2_31, x3_32))))))
set_option maxRecDepth 100000 in
set_option maxHeartbeats 4000000 in
theorem w_X3_fitting_L4 {E : ZEv} {G : ZG} {K : Int32 → Prop} (M : ZMem) (h : zRu lyC E G (zRp M K) cX3_fitting RX3 4 (some .int) 2) (x1 : Int32) (s : (Int32 × Int32)) (hk : zOk (zloop (f_X3_fitting_L4 M x1) s) (fun e => G M 38 [(2, .int e)] [])) : G M 4 [(0, zrf E 54), (1, .int x1), (2, .int s.1), (3, .int s.2)] [] := by
  refine zloop_walk (P := fun s => G M 4 [(0, zrf E 54), (1, .int x1), (2, .int s.1), (3, .int s.2)] []) hk (fun s hk => ?_)
  unfold f_X3_fitting_L4 at hk
  refine zr_iload_n h dX3_fitting_4 3 rfl rfl ?_
  refine zr_aload_n h dX3_fitting_5 0 rfl rfl ?_
  refine zr_getR h zfo_X3_29 lC_54 rfl dX3_fitting_6 ?_
  refine zr_callVp h lC_34 zcw_X3_56 (by decide) (c_X2_held E M _ (zOk_bind hk)) rfl rfl (Nat.le_of_ble_eq_true rfl) dX3_fitting_9 (fun r_9 hk => ?_)
  refine zr_icmp_ge (tgt := 38) h dX3_fitting_12 (by decide) (fun c => ?_) (fun c => ?_)
  · have hk := zOk_t c hk
    have hk := zOk_some hk
    exact zr_weak h [2] rfl hk
  · have hk := zOk_f c hk
    refine zr_iload_n h dX3_fitting_15 2 rfl rfl ?_
    refine zr_aload_n h dX3_fitting_16 0 rfl rfl ?_
    refine zr_iload_n h dX3_fitting_17 1 rfl rfl ?_
    refine zr_iload_n h dX3_fitting_18 3 rfl rfl ?_
    refine zr_callVp h lC_54 zcw_X3_99 (by decide) (c_X3_isFitting E M x1 s.2 _ (zOk_bind hk)) rfl rfl (Nat.le_of_ble_eq_true rfl) dX3_fitting_19 (fun r_19 hk => ?_)
    refine zr_if_eq (tgt := 29) h dX3_fitting_22 (by decide) (fun c => ?_) (fun c => ?_)
    · have hk := zOk_t c hk
      refine zr_iconst (v := (zI 0)) h dX3_fitting_29 rfl ?_
      refine zr_iadd h dX3_fitting_30 ?_
      refine zr_topi (fun x2_31 ex => ?_)
      have hk := zOk_bnd ex hk
      refine zr_istore_n (L' := [(0, zrf E 54), (1, .int x1), (2, .int x2_31), (3, .int s.2)]) h [1, 2, 0, 3] dX3_fitting_31 rfl (by decide) rfl ?_
      obtain ⟨x3_32, ex⟩ : ∃ y : Int32, y = s.2 + (zI 1) := ⟨_, rfl⟩
      have hk := zOk_bnd ex hk
      refine zr_iinc (v := x3_32) (L' := [(0, zrf E 54), (1, .int x1), (2, .int x2_31), (3, .int x3_32)]) h 3 [1, 2, 3, 0] dX3_fitting_32 rfl (by rw [ex]; rfl) (by decide) rfl ?_
      refine zr_goto (tgt := 4) h dX3_fitting_35 (by decide) ?_
      have hk := zOk_some hk
      exact zr_weak h [0, 1, 2, 3] rfl hk
    · have hk := zOk_f c hk
      refine zr_iconst (v := (zI 1)) h dX3_fitting_25 rfl ?_
      refine zr_goto (tgt := 30) h dX3_fitting_26 (by decide) ?_
      refine zr_iadd h dX3_fitting_30 ?_
      refine zr_topi (fun x2_31 ex => ?_)
      have hk := zOk_bnd ex hk
      refine zr_istore_n (L' := [(0, zrf E 54), (1, .int x1), (2, .int x2_31), (3, .int s.2)]) h [1, 2, 0, 3] dX3_fitting_31 rfl (by decide) rfl ?_
      obtain ⟨x3_32, ex⟩ : ∃ y : Int32, y = s.2 + (zI 1) := ⟨_, rfl⟩
      have hk := zOk_bnd ex hk
      refine zr_iinc (v := x3_32) (L' := [(0, zrf E 54), (1, .int x1), (2, .int x2_31), (3, .int x3_32)]) h 3 [1, 2, 3, 0] dX3_fitting_32 rfl (by rw [ex]; rfl) (by decide) rfl ?_
      refine zr_goto (tgt := 4) h dX3_fitting_35 (by decide) ?_
      have hk := zOk_some hk
      exact zr_weak h [0, 1, 2, 3] rfl hk
noncomputable def f_X3_fitting (M : ZMem) (x1 : Int32) : Option Int32 := zbind (zloop (f_X3_fitting_L4 M x1) ((zI 0), (zI 0))) (fun e4 => some e4)
set_option maxRecDepth 100000 in
set_option maxHeartbeats 4000000 in
theorem c_X3_fitting (E : ZEv) (M : ZMem) (x1 : Int32) (K : Int32 → Prop) (hk : zOk (f_X3_fitting M x1) K) : zCon lyC E yX3_fitting cX3_fitting 4 (some .int) 2 [zrf E 54, .int x1] M (zRp M K) := by
  refine zcon_of (L0 := [(0, zrf E 54), (1, .int x1)]) (by decide) rfl (Nat.le_of_ble_eq_true rfl) (fun G h => ?_)
  have h : zRu lyC E G (zRp M K) cX3_fitting RX3 4 (some .int) 2 := h
  unfold f_X3_fitting at hk
  refine zr_iconst (v := (zI 0)) h dX3_fitting_0 rfl ?_
  refine zr_istore_n (L' := [(0, zrf E 54), (1, .int x1), (2, .int (zI 0))]) h [1, 2, 0] dX3_fitting_1 rfl (by decide) rfl ?_
  refine zr_iconst (v := (zI 0)) h dX3_fitting_2 rfl ?_
  refine zr_istore_n (L' := [(0, zrf E 54), (1, .int x1), (2, .int (zI 0)), (3, .int (zI 0))]) h [1, 2, 3, 0] dX3_fitting_3 rfl (by decide) rfl ?_
  refine w_X3_fitting_L4 M h x1 ((zI 0), (zI 0)) (zOk_mono (zOk_bind hk) (fun e4 hk => ?_))
  refine zr_iload_n h dX3_fitting_38 0 rfl rfl ?_
  have hk := zOk_some hk
  exact zr_iret h dX3_fitting_39 ⟨rfl, _, rfl, hk⟩
theorem dX3_fittingWord_0 : decode cX3_fittingWord 0 = .ok (.iconst 0, 1) := by decide +kernel
theorem dX3_fittingWord_1 : decode cX3_fittingWord 1 = .ok (.istore_n 3, 1) := by decide +kernel
theorem dX3_fittingWord_2 : decode cX3_fittingWord 2 = .ok (.iconst 0, 1) := by decide +kernel
theorem dX3_fittingWord_3 : decode cX3_fittingWord 3 = .ok (.istore 4, 2) := by decide +kernel
theorem dX3_fittingWord_5 : decode cX3_fittingWord 5 = .ok (.iload 4, 2) := by decide +kernel
theorem dX3_fittingWord_7 : decode cX3_fittingWord 7 = .ok (.aload_n 0, 1) := by decide +kernel
theorem dX3_fittingWord_8 : decode cX3_fittingWord 8 = .ok (.getfield 29, 3) := by decide +kernel
theorem dX3_fittingWord_11 : decode cX3_fittingWord 11 = .ok (.invokevirtual 56, 3) := by decide +kernel
theorem dX3_fittingWord_14 : decode cX3_fittingWord 14 = .ok (.if_icmp .ge 30, 3) := by decide +kernel
theorem dX3_fittingWord_17 : decode cX3_fittingWord 17 = .ok (.aload_n 0, 1) := by decide +kernel
theorem dX3_fittingWord_18 : decode cX3_fittingWord 18 = .ok (.iload_n 1, 1) := by decide +kernel
theorem dX3_fittingWord_19 : decode cX3_fittingWord 19 = .ok (.iload 4, 2) := by decide +kernel
theorem dX3_fittingWord_21 : decode cX3_fittingWord 21 = .ok (.invokevirtual 99, 3) := by decide +kernel
theorem dX3_fittingWord_24 : decode cX3_fittingWord 24 = .ok (.ifCond .eq 14, 3) := by decide +kernel
theorem dX3_fittingWord_27 : decode cX3_fittingWord 27 = .ok (.iload_n 3, 1) := by decide +kernel
theorem dX3_fittingWord_28 : decode cX3_fittingWord 28 = .ok (.iload_n 2, 1) := by decide +kernel
theorem dX3_fittingWord_29 : decode cX3_fittingWord 29 = .ok (.if_icmp .ne 6, 3) := by decide +kernel
theorem dX3_fittingWord_32 : decode cX3_fittingWord 32 = .ok (.iload 4, 2) := by decide +kernel
theorem dX3_fittingWord_34 : decode cX3_fittingWord 34 = .ok (.ireturn, 1) := by decide +kernel
theorem dX3_fittingWord_35 : decode cX3_fittingWord 35 = .ok (.iinc 3 1, 3) := by decide +kernel
theorem dX3_fittingWord_38 : decode cX3_fittingWord 38 = .ok (.iinc 4 1, 3) := by decide +kernel
theorem dX3_fittingWord_41 : decode cX3_fittingWord 41 = .ok (.goto (-36), 3) := by decide +kernel
theorem dX3_fittingWord_44 : decode cX3_fittingWord 44 = .ok (.iconst (-1), 1) := by decide +kernel
theorem dX3_fittingWord_45 : decode cX3_fittingWord 45 = .ok (.ireturn, 1) := by decide +kernel
noncomputable def f_X3_fittingWord_L5 (M : ZMem) (x1 : Int32) (x2 : Int32) (s : (Int32 × Int32)) : Option ((Int32 × Int32) ⊕ ((Unit) ⊕ Int32)) := zbind (f_X2_held M) (fun r_11 => if r_11 ≤ s.2 then some (.inr (.inl ())) else zbind (f_X3_isFitting M x1 s.2) (fun r_21 => if r_21 = (zI 0) then zbnd (s.2 + (zI 1)) (fun x4_38 => some (.inl (s.1, x4_38))) else if s.1 = x2 then some (.inr (.inr s.2)) else zbnd (s.1 + (zI 1)) (fun x3_35 => zbnd (s.2 + (zI 1)) (fun x4_38 => some (.inl (x3_35, x4_38))))))
set_option maxRecDepth 100000 in
set_option maxHeartbeats 4000000 in
theorem w_X3_fittingWord_L5 {E : ZEv} {G : ZG} {K : Int32 → Prop} (M : ZMem) (h : zRu lyC E G (zRp M K) cX3_fittingWord RX3 5 (some .int) 2) (x1 : Int32) (x2 : Int32) (s : (Int32 × Int32)) (hk : zOk (zloop (f_X3_fittingWord_L5 M x1 x2) s) (fun e => zsel e (fun e0 => G M 44 [] []) (fun f0 => K f0))) : G M 5 [(0, zrf E 54), (1, .int x1), (2, .int x2), (3, .int s.1), (4, .int s.2)] [] := by
  refine zloop_walk (P := fun s => G M 5 [(0, zrf E 54), (1, .int x1), (2, .int x2), (3, .int s.1), (4, .int s.2)] []) hk (fun s hk => ?_)
  unfold f_X3_fittingWord_L5 at hk
  refine zr_iload h dX3_fittingWord_5 4 rfl ?_
  refine zr_aload_n h dX3_fittingWord_7 0 rfl rfl ?_
  refine zr_getR h zfo_X3_29 lC_54 rfl dX3_fittingWord_8 ?_
  refine zr_callVp h lC_34 zcw_X3_56 (by decide) (c_X2_held E M _ (zOk_bind hk)) rfl rfl (Nat.le_of_ble_eq_true rfl) dX3_fittingWord_11 (fun r_11 hk => ?_)
  refine zr_icmp_ge (tgt := 44) h dX3_fittingWord_14 (by decide) (fun c => ?_) (fun c => ?_)
  · have hk := zOk_t c hk
    have hk := zOk_some hk
    exact zr_weak h [] rfl hk
  · have hk := zOk_f c hk
    refine zr_aload_n h dX3_fittingWord_17 0 rfl rfl ?_
    refine zr_iload_n h dX3_fittingWord_18 1 rfl rfl ?_
    refine zr_iload h dX3_fittingWord_19 4 rfl ?_
    refine zr_callVp h lC_54 zcw_X3_99 (by decide) (c_X3_isFitting E M x1 s.2 _ (zOk_bind hk)) rfl rfl (Nat.le_of_ble_eq_true rfl) dX3_fittingWord_21 (fun r_21 hk => ?_)
    refine zr_if_eq (tgt := 38) h dX3_fittingWord_24 (by decide) (fun c => ?_) (fun c => ?_)
    · have hk := zOk_t c hk
      obtain ⟨x4_38, ex⟩ : ∃ y : Int32, y = s.2 + (zI 1) := ⟨_, rfl⟩
      have hk := zOk_bnd ex hk
      refine zr_iinc (v := x4_38) (L' := [(0, zrf E 54), (1, .int x1), (2, .int x2), (3, .int s.1), (4, .int x4_38)]) h 4 [1, 2, 3, 4, 0] dX3_fittingWord_38 rfl (by rw [ex]; rfl) (by decide) rfl ?_
      refine zr_goto (tgt := 5) h dX3_fittingWord_41 (by decide) ?_
      have hk := zOk_some hk
      exact zr_weak h [0, 1, 2, 3, 4] rfl hk
    · have hk := zOk_f c hk
      refine zr_iload_n h dX3_fittingWord_27 3 rfl rfl ?_
      refine zr_iload_n h dX3_fittingWord_28 2 rfl rfl ?_
      refine zr_icmp_ne (tgt := 35) h dX3_fittingWord_29 (by decide) (fun c => ?_) (fun c => ?_)
      · have hk := zOk_t c hk
        refine zr_iload h dX3_fittingWord_32 4 rfl ?_
        have hk := zOk_some hk
        exact zr_iret h dX3_fittingWord_34 ⟨rfl, _, rfl, hk⟩
      · have hk := zOk_f c hk
        obtain ⟨x3_35, ex⟩ : ∃ y : Int32, y = s.1 + (zI 1) := ⟨_, rfl⟩
        have hk := zOk_bnd ex hk
        refine zr_iinc (v := x3_35) (L' := [(0, zrf E 54), (1, .int x1), (2, .int x2), (3, .int x3_35), (4, .int s.2)]) h 3 [1, 2, 3, 0, 4] dX3_fittingWord_35 rfl (by rw [ex]; rfl) (by decide) rfl ?_
        obtain ⟨x4_38, ex⟩ : ∃ y : Int32, y = s.2 + (zI 1) := ⟨_, rfl⟩
        have hk := zOk_bnd ex hk
        refine zr_iinc (v := x4_38) (L' := [(0, zrf E 54), (1, .int x1), (2, .int x2), (3, .int x3_35), (4, .int x4_38)]) h 4 [1, 2, 3, 4, 0] dX3_fittingWord_38 rfl (by rw [ex]; rfl) (by decide) rfl ?_
        refine zr_goto (tgt := 5) h dX3_fittingWord_41 (by decide) ?_
        have hk := zOk_some hk
        exact zr_weak h [0, 1, 2, 3, 4] rfl hk
noncomputable def f_X3_fittingWord (M : ZMem) (x1 : Int32) (x2 : Int32) : Option Int32 := zbind (zloop (f_X3_fittingWord_L5 M x1 x2) ((zI 0), (zI 0))) (fun e5 => zsel e5 (fun e5a => some (zI (-1))) (fun e5b => some e5b))
set_option maxRecDepth 100000 in
set_option maxHeartbeats 4000000 in
theorem c_X3_fittingWord (E : ZEv) (M : ZMem) (x1 : Int32) (x2 : Int32) (K : Int32 → Prop) (hk : zOk (f_X3_fittingWord M x1 x2) K) : zCon lyC E yX3_fittingWord cX3_fittingWord 5 (some .int) 2 [zrf E 54, .int x1, .int x2] M (zRp M K) := by
  refine zcon_of (L0 := [(0, zrf E 54), (1, .int x1), (2, .int x2)]) (by decide) rfl (Nat.le_of_ble_eq_true rfl) (fun G h => ?_)
  have h : zRu lyC E G (zRp M K) cX3_fittingWord RX3 5 (some .int) 2 := h
  unfold f_X3_fittingWord at hk
  refine zr_iconst (v := (zI 0)) h dX3_fittingWord_0 rfl ?_
  refine zr_istore_n (L' := [(0, zrf E 54), (1, .int x1), (2, .int x2), (3, .int (zI 0))]) h [1, 2, 3, 0] dX3_fittingWord_1 rfl (by decide) rfl ?_
  refine zr_iconst (v := (zI 0)) h dX3_fittingWord_2 rfl ?_
  refine zr_istore (L' := [(0, zrf E 54), (1, .int x1), (2, .int x2), (3, .int (zI 0)), (4, .int (zI 0))]) h [1, 2, 3, 4, 0] dX3_fittingWord_3 (by decide) rfl ?_
  refine w_X3_fittingWord_L5 M h x1 x2 ((zI 0), (zI 0)) (zOk_mono (zOk_bind hk) (fun e5 hk => ?_))
  cases e5 with
  | inl e5a =>
    have hk := zOk_selL hk
    refine zr_iconst (v := (zI (-1))) h dX3_fittingWord_44 rfl ?_
    have hk := zOk_some hk
    exact zr_iret h dX3_fittingWord_45 ⟨rfl, _, rfl, hk⟩
  | inr e5b =>
    have hk := zOk_selR hk
    have hk := zOk_some hk
    exact hk
theorem dX3_swap_0 : decode cX3_swap 0 = .ok (.aload_n 0, 1) := by decide +kernel
theorem dX3_swap_1 : decode cX3_swap 1 = .ok (.iload_n 1, 1) := by decide +kernel
theorem dX3_swap_2 : decode cX3_swap 2 = .ok (.iaload, 1) := by decide +kernel
theorem dX3_swap_3 : decode cX3_swap 3 = .ok (.istore_n 3, 1) := by decide +kernel
theorem dX3_swap_4 : decode cX3_swap 4 = .ok (.aload_n 0, 1) := by decide +kernel
theorem dX3_swap_5 : decode cX3_swap 5 = .ok (.iload_n 1, 1) := by decide +kernel
theorem dX3_swap_6 : decode cX3_swap 6 = .ok (.aload_n 0, 1) := by decide +kernel
theorem dX3_swap_7 : decode cX3_swap 7 = .ok (.iload_n 2, 1) := by decide +kernel
theorem dX3_swap_8 : decode cX3_swap 8 = .ok (.iaload, 1) := by decide +kernel
theorem dX3_swap_9 : decode cX3_swap 9 = .ok (.iastore, 1) := by decide +kernel
theorem dX3_swap_10 : decode cX3_swap 10 = .ok (.aload_n 0, 1) := by decide +kernel
theorem dX3_swap_11 : decode cX3_swap 11 = .ok (.iload_n 2, 1) := by decide +kernel
theorem dX3_swap_12 : decode cX3_swap 12 = .ok (.iload_n 3, 1) := by decide +kernel
theorem dX3_swap_13 : decode cX3_swap 13 = .ok (.iastore, 1) := by decide +kernel
theorem dX3_swap_14 : decode cX3_swap 14 = .ok (.return_, 1) := by decide +kernel
noncomputable def f_X3_swap (q0 : Nat) (n0 : Nat) (M : ZMem) (x1 : Int32) (x2 : Int32) : Option ZMem := zchk (zin x1 n0) (zbnd (M.1 q0 (zix x1)) (fun x3_3 => zchk (zin x2 n0) (zchk (zin x1 n0) (zbnd (zstI M q0 (zix x1) (M.1 q0 (zix x2))) (fun M_9 => zchk (zin x2 n0) (zbnd (zstI M_9 q0 (zix x2) x3_3) (fun M_13 => some M_13)))))))
set_option maxRecDepth 100000 in
set_option maxHeartbeats 4000000 in
theorem c_X3_swap {ly : List ZEnt} (E : ZEv) (q0 : Nat) (n0 : Nat) (hq0 : ly[q0]? = some (.inl (0, n0))) (M : ZMem) (x1 : Int32) (x2 : Int32) (K : ZMem → Prop) (hk : zOk (f_X3_swap q0 n0 M x1 x2) K) : zCon ly E yX3_swap cX3_swap 4 none 0 [zrf E q0, .int x1, .int x2] M (zRv K) := by
  refine zcon_of (L0 := [(0, zrf E q0), (1, .int x1), (2, .int x2)]) (by decide) rfl (Nat.le_of_ble_eq_true rfl) (fun G h => ?_)
  have h : zRu ly E G (zRv K) cX3_swap RX3 4 none 0 := h
  unfold f_X3_swap at hk
  refine zr_aload_n h dX3_swap_0 0 rfl rfl ?_
  refine zr_iload_n h dX3_swap_1 1 rfl rfl ?_
  have hb := zOk_chk hk
  have hk := hb.2
  refine zr_iald h hq0 hb.1 dX3_swap_2 ?_
  refine zr_topi (fun x3_3 ex => ?_)
  have hk := zOk_bnd ex hk
  refine zr_istore_n (L' := [(0, zrf E q0), (1, .int x1), (2, .int x2), (3, .int x3_3)]) h [1, 2, 3, 0] dX3_swap_3 rfl (by decide) rfl ?_
  refine zr_aload_n h dX3_swap_4 0 rfl rfl ?_
  refine zr_iload_n h dX3_swap_5 1 rfl rfl ?_
  refine zr_aload_n h dX3_swap_6 0 rfl rfl ?_
  refine zr_iload_n h dX3_swap_7 2 rfl rfl ?_
  have hb := zOk_chk hk
  have hk := hb.2
  refine zr_iald h hq0 hb.1 dX3_swap_8 ?_
  have hb := zOk_chk hk
  have hk := hb.2
  refine zr_iast h hq0 hb.1 dX3_swap_9 ?_
  refine zr_mem (fun M_9 eM => ?_)
  have hk := zOk_bnd eM hk
  refine zr_aload_n h dX3_swap_10 0 rfl rfl ?_
  refine zr_iload_n h dX3_swap_11 2 rfl rfl ?_
  refine zr_iload_n h dX3_swap_12 3 rfl rfl ?_
  have hb := zOk_chk hk
  have hk := hb.2
  refine zr_iast h hq0 hb.1 dX3_swap_13 ?_
  refine zr_mem (fun M_13 eM => ?_)
  have hk := zOk_bnd eM hk
  have hk := zOk_some hk
  exact zr_vret h dX3_swap_14 ⟨rfl, hk⟩
theorem dX3_changeAbout_0 : decode cX3_changeAbout 0 = .ok (.iload_n 1, 1) := by decide +kernel
theorem dX3_changeAbout_1 : decode cX3_changeAbout 1 = .ok (.istore_n 2, 1) := by decide +kernel
theorem dX3_changeAbout_2 : decode cX3_changeAbout 2 = .ok (.aload_n 0, 1) := by decide +kernel
theorem dX3_changeAbout_3 : decode cX3_changeAbout 3 = .ok (.getfield 37, 3) := by decide +kernel
theorem dX3_changeAbout_6 : decode cX3_changeAbout 6 = .ok (.iconst 1, 1) := by decide +kernel
theorem dX3_changeAbout_7 : decode cX3_changeAbout 7 = .ok (.isub, 1) := by decide +kernel
theorem dX3_changeAbout_8 : decode cX3_changeAbout 8 = .ok (.istore_n 3, 1) := by decide +kernel
theorem dX3_changeAbout_9 : decode cX3_changeAbout 9 = .ok (.iload_n 3, 1) := by decide +kernel
theorem dX3_changeAbout_10 : decode cX3_changeAbout 10 = .ok (.iconst 1, 1) := by decide +kernel
theorem dX3_changeAbout_11 : decode cX3_changeAbout 11 = .ok (.if_icmp .lt 86, 3) := by decide +kernel
theorem dX3_changeAbout_14 : decode cX3_changeAbout 14 = .ok (.iload_n 2, 1) := by decide +kernel
theorem dX3_changeAbout_15 : decode cX3_changeAbout 15 = .ok (.i2l, 1) := by decide +kernel
theorem dX3_changeAbout_16 : decode cX3_changeAbout 16 = .ok (.ldc2_w 105, 3) := by decide +kernel
theorem dX3_changeAbout_19 : decode cX3_changeAbout 19 = .ok (.lmul, 1) := by decide +kernel
theorem dX3_changeAbout_20 : decode cX3_changeAbout 20 = .ok (.ldc2_w 107, 3) := by decide +kernel
theorem dX3_changeAbout_23 : decode cX3_changeAbout 23 = .ok (.ladd, 1) := by decide +kernel
theorem dX3_changeAbout_24 : decode cX3_changeAbout 24 = .ok (.ldc2_w 109, 3) := by decide +kernel
theorem dX3_changeAbout_27 : decode cX3_changeAbout 27 = .ok (.land, 1) := by decide +kernel
theorem dX3_changeAbout_28 : decode cX3_changeAbout 28 = .ok (.l2i, 1) := by decide +kernel
theorem dX3_changeAbout_29 : decode cX3_changeAbout 29 = .ok (.istore_n 2, 1) := by decide +kernel
theorem dX3_changeAbout_30 : decode cX3_changeAbout 30 = .ok (.iload_n 2, 1) := by decide +kernel
theorem dX3_changeAbout_31 : decode cX3_changeAbout 31 = .ok (.ldc 111, 2) := by decide +kernel
theorem dX3_changeAbout_33 : decode cX3_changeAbout 33 = .ok (.idiv, 1) := by decide +kernel
theorem dX3_changeAbout_34 : decode cX3_changeAbout 34 = .ok (.iload_n 3, 1) := by decide +kernel
theorem dX3_changeAbout_35 : decode cX3_changeAbout 35 = .ok (.iconst 1, 1) := by decide +kernel
theorem dX3_changeAbout_36 : decode cX3_changeAbout 36 = .ok (.iadd, 1) := by decide +kernel
theorem dX3_changeAbout_37 : decode cX3_changeAbout 37 = .ok (.irem, 1) := by decide +kernel
theorem dX3_changeAbout_38 : decode cX3_changeAbout 38 = .ok (.istore 4, 2) := by decide +kernel
theorem dX3_changeAbout_40 : decode cX3_changeAbout 40 = .ok (.iload 4, 2) := by decide +kernel
theorem dX3_changeAbout_42 : decode cX3_changeAbout 42 = .ok (.ifCond .lt 49, 3) := by decide +kernel
theorem dX3_changeAbout_45 : decode cX3_changeAbout 45 = .ok (.iload 4, 2) := by decide +kernel
theorem dX3_changeAbout_47 : decode cX3_changeAbout 47 = .ok (.iload_n 3, 1) := by decide +kernel
theorem dX3_changeAbout_48 : decode cX3_changeAbout 48 = .ok (.if_icmp .ge 43, 3) := by decide +kernel
theorem dX3_changeAbout_51 : decode cX3_changeAbout 51 = .ok (.aload_n 0, 1) := by decide +kernel
theorem dX3_changeAbout_52 : decode cX3_changeAbout 52 = .ok (.getfield 15, 3) := by decide +kernel
theorem dX3_changeAbout_55 : decode cX3_changeAbout 55 = .ok (.aload_n 0, 1) := by decide +kernel
theorem dX3_changeAbout_56 : decode cX3_changeAbout 56 = .ok (.getfield 22, 3) := by decide +kernel
theorem dX3_changeAbout_59 : decode cX3_changeAbout 59 = .ok (.iload_n 3, 1) := by decide +kernel
theorem dX3_changeAbout_60 : decode cX3_changeAbout 60 = .ok (.iaload, 1) := by decide +kernel
theorem dX3_changeAbout_61 : decode cX3_changeAbout 61 = .ok (.aload_n 0, 1) := by decide +kernel
theorem dX3_changeAbout_62 : decode cX3_changeAbout 62 = .ok (.getfield 22, 3) := by decide +kernel
theorem dX3_changeAbout_65 : decode cX3_changeAbout 65 = .ok (.iload 4, 2) := by decide +kernel
theorem dX3_changeAbout_67 : decode cX3_changeAbout 67 = .ok (.iaload, 1) := by decide +kernel
theorem dX3_changeAbout_68 : decode cX3_changeAbout 68 = .ok (.invokestatic 112, 3) := by decide +kernel
theorem dX3_changeAbout_71 : decode cX3_changeAbout 71 = .ok (.aload_n 0, 1) := by decide +kernel
theorem dX3_changeAbout_72 : decode cX3_changeAbout 72 = .ok (.getfield 19, 3) := by decide +kernel
theorem dX3_changeAbout_75 : decode cX3_changeAbout 75 = .ok (.aload_n 0, 1) := by decide +kernel
theorem dX3_changeAbout_76 : decode cX3_changeAbout 76 = .ok (.getfield 22, 3) := by decide +kernel
theorem dX3_changeAbout_79 : decode cX3_changeAbout 79 = .ok (.iload_n 3, 1) := by decide +kernel
theorem dX3_changeAbout_80 : decode cX3_changeAbout 80 = .ok (.iaload, 1) := by decide +kernel
theorem dX3_changeAbout_81 : decode cX3_changeAbout 81 = .ok (.aload_n 0, 1) := by decide +kernel
theorem dX3_changeAbout_82 : decode cX3_changeAbout 82 = .ok (.getfield 22, 3) := by decide +kernel
theorem dX3_changeAbout_85 : decode cX3_changeAbout 85 = .ok (.iload 4, 2) := by decide +kernel
theorem dX3_changeAbout_87 : decode cX3_changeAbout 87 = .ok (.iaload, 1) := by decide +kernel
theorem dX3_changeAbout_88 : decode cX3_changeAbout 88 = .ok (.invokestatic 112, 3) := by decide +kernel
theorem dX3_changeAbout_91 : decode cX3_changeAbout 91 = .ok (.iinc 3 (-1), 3) := by decide +kernel
theorem dX3_changeAbout_94 : decode cX3_changeAbout 94 = .ok (.goto (-85), 3) := by decide +kernel
theorem dX3_changeAbout_97 : decode cX3_changeAbout 97 = .ok (.iload_n 2, 1) := by decide +kernel
theorem dX3_changeAbout_98 : decode cX3_changeAbout 98 = .ok (.ireturn, 1) := by decide +kernel
noncomputable def f_X3_changeAbout_L9 (s : (ZMem × Int32 × Int32)) : Option ((ZMem × Int32 × Int32) ⊕ (ZMem × Int32)) := if s.2.2 < (zI 1) then some (.inr (s.1, s.2.1)) else zbnd (((((((s.2.1 : Int32).toInt64) * (1103515245 : Int64)) + (12345 : Int64)) &&& (2147483647 : Int64)) : Int64).toInt32) (fun x2_29 => zchk (zne (s.2.2 + (zI 1))) (zbnd ((x2_29 / (65536 : Int32)) - (x2_29 / (65536 : Int32)) / (s.2.2 + (zI 1)) * (s.2.2 + (zI 1))) (fun x4_38 => if x4_38 < (zI 0) then zbnd (s.2.2 + (zI (-1))) (fun x3_91 => some (.inl (s.1, x2_29, x3_91))) else if s.2.2 ≤ x4_38 then zbnd (s.2.2 + (zI (-1))) (fun x3_91 => some (.inl (s.1, x2_29, x3_91))) else zchk (zin s.2.2 20) (zchk (zin x4_38 20) (zbind (f_X3_swap 56 20 s.1 (s.1.1 58 (zix s.2.2)) (s.1.1 58 (zix x4_38))) (fun M_68 => zchk (zin s.2.2 20) (zchk (zin x4_38 20) (zbind (f_X3_swap 57 20 M_68 (M_68.1 58 (zix s.2.2)) (M_68.1 58 (zix x4_38))) (fun M_88 => zbnd (s.2.2 + (zI (-1))) (fun x3_91 => some (.inl (M_88, x2_29, x3_91))))))))))))
set_option maxRecDepth 100000 in
set_option maxHeartbeats 4000000 in
theorem w_X3_changeAbout_L9 {E : ZEv} {G : ZG} {K : (ZMem × Int32) → Prop} (h : zRu lyC E G (zRm K) cX3_changeAbout RX3 5 (some .int) 1) (s : (ZMem × Int32 × Int32)) (hk : zOk (zloop (f_X3_changeAbout_L9) s) (fun e => G e.1 97 [(2, .int e.2)] [])) : G s.1 9 [(0, zrf E 54), (2, .int s.2.1), (3, .int s.2.2)] [] := by
  refine zloop_walk (P := fun s => G s.1 9 [(0, zrf E 54), (2, .int s.2.1), (3, .int s.2.2)] []) hk (fun s hk => ?_)
  unfold f_X3_changeAbout_L9 at hk
  refine zr_iload_n h dX3_changeAbout_9 2 rfl rfl ?_
  refine zr_iconst (v := (zI 1)) h dX3_changeAbout_10 rfl ?_
  refine zr_icmp_lt (tgt := 97) h dX3_changeAbout_11 (by decide) (fun c => ?_) (fun c => ?_)
  · have hk := zOk_t c hk
    have hk := zOk_some hk
    exact zr_weak h [1] rfl hk
  · have hk := zOk_f c hk
    refine zr_iload_n h dX3_changeAbout_14 1 rfl rfl ?_
    refine zr_i2l h dX3_changeAbout_15 ?_
    refine zr_ldc2 (v := 1103515245) h dX3_changeAbout_16 (zm_68 _ (List.mem_of_getElem? (i := 19) rfl)) ?_
    refine zr_lmul h dX3_changeAbout_19 ?_
    refine zr_ldc2 (v := 12345) h dX3_changeAbout_20 (zm_68 _ (List.mem_of_getElem? (i := 20) rfl)) ?_
    refine zr_ladd h dX3_changeAbout_23 ?_
    refine zr_ldc2 (v := 2147483647) h dX3_changeAbout_24 (zm_68 _ (List.mem_of_getElem? (i := 21) rfl)) ?_
    refine zr_land h dX3_changeAbout_27 ?_
    refine zr_l2i h dX3_changeAbout_28 ?_
    refine zr_topi (fun x2_29 ex => ?_)
    have hk := zOk_bnd ex hk
    refine zr_istore_n (L' := [(0, zrf E 54), (2, .int x2_29), (3, .int s.2.2)]) h [1, 0, 2] dX3_changeAbout_29 rfl (by decide) rfl ?_
    refine zr_iload_n h dX3_changeAbout_30 1 rfl rfl ?_
    refine zr_ldc (v := 65536) h dX3_changeAbout_31 (zm_68 _ (List.mem_of_getElem? (i := 22) rfl)) ?_
    refine zr_idiv h dX3_changeAbout_33 (by decide) ?_
    refine zr_iload_n h dX3_changeAbout_34 2 rfl rfl ?_
    refine zr_iconst (v := (zI 1)) h dX3_changeAbout_35 rfl ?_
    refine zr_iadd h dX3_changeAbout_36 ?_
    have hb := zOk_chk hk
    have hk := hb.2
    refine zr_irem h dX3_changeAbout_37 (zne_of hb.1) ?_
    refine zr_topi (fun x4_38 ex => ?_)
    have hk := zOk_bnd ex hk
    refine zr_istore (L' := [(0, zrf E 54), (2, .int x2_29), (3, .int s.2.2), (4, .int x4_38)]) h [1, 2, 3, 0] dX3_changeAbout_38 (by decide) rfl ?_
    refine zr_iload h dX3_changeAbout_40 3 rfl ?_
    refine zr_if_lt (tgt := 91) h dX3_changeAbout_42 (by decide) (fun c => ?_) (fun c => ?_)
    · have hk := zOk_t c hk
      obtain ⟨x3_91, ex⟩ : ∃ y : Int32, y = s.2.2 + (zI (-1)) := ⟨_, rfl⟩
      have hk := zOk_bnd ex hk
      refine zr_iinc (v := x3_91) (L' := [(0, zrf E 54), (2, .int x2_29), (3, .int x3_91)]) h 2 [1, 2, 0] dX3_changeAbout_91 rfl (by rw [ex]; rfl) (by decide) rfl ?_
      refine zr_goto (tgt := 9) h dX3_changeAbout_94 (by decide) ?_
      have hk := zOk_some hk
      exact zr_weak h [0, 1, 2] rfl hk
    · have hk := zOk_f c hk
      refine zr_iload h dX3_changeAbout_45 3 rfl ?_
      refine zr_iload_n h dX3_changeAbout_47 2 rfl rfl ?_
      refine zr_icmp_ge (tgt := 91) h dX3_changeAbout_48 (by decide) (fun c => ?_) (fun c => ?_)
      · have hk := zOk_t c hk
        obtain ⟨x3_91, ex⟩ : ∃ y : Int32, y = s.2.2 + (zI (-1)) := ⟨_, rfl⟩
        have hk := zOk_bnd ex hk
        refine zr_iinc (v := x3_91) (L' := [(0, zrf E 54), (2, .int x2_29), (3, .int x3_91)]) h 2 [1, 2, 0] dX3_changeAbout_91 rfl (by rw [ex]; rfl) (by decide) rfl ?_
        refine zr_goto (tgt := 9) h dX3_changeAbout_94 (by decide) ?_
        have hk := zOk_some hk
        exact zr_weak h [0, 1, 2] rfl hk
      · have hk := zOk_f c hk
        refine zr_aload_n h dX3_changeAbout_51 0 rfl rfl ?_
        refine zr_getR h zfo_X3_15 lC_54 rfl dX3_changeAbout_52 ?_
        refine zr_aload_n h dX3_changeAbout_55 0 rfl rfl ?_
        refine zr_getR h zfo_X3_22 lC_54 rfl dX3_changeAbout_56 ?_
        refine zr_iload_n h dX3_changeAbout_59 2 rfl rfl ?_
        have hb := zOk_chk hk
        have hk := hb.2
        refine zr_iald h lC_58 hb.1 dX3_changeAbout_60 ?_
        refine zr_aload_n h dX3_changeAbout_61 0 rfl rfl ?_
        refine zr_getR h zfo_X3_22 lC_54 rfl dX3_changeAbout_62 ?_
        refine zr_iload h dX3_changeAbout_65 3 rfl ?_
        have hb := zOk_chk hk
        have hk := hb.2
        refine zr_iald h lC_58 hb.1 dX3_changeAbout_67 ?_
        refine zr_callSv h zcw_X3_112 (by decide) (c_X3_swap E 56 20 lC_56 s.1 (s.1.1 58 (zix s.2.2)) (s.1.1 58 (zix x4_38)) _ (zOk_bind hk)) rfl rfl (Nat.le_of_ble_eq_true rfl) dX3_changeAbout_68 (fun M_68 hk => ?_)
        refine zr_aload_n h dX3_changeAbout_71 0 rfl rfl ?_
        refine zr_getR h zfo_X3_19 lC_54 rfl dX3_changeAbout_72 ?_
        refine zr_aload_n h dX3_changeAbout_75 0 rfl rfl ?_
        refine zr_getR h zfo_X3_22 lC_54 rfl dX3_changeAbout_76 ?_
        refine zr_iload_n h dX3_changeAbout_79 2 rfl rfl ?_
        have hb := zOk_chk hk
        have hk := hb.2
        refine zr_iald h lC_58 hb.1 dX3_changeAbout_80 ?_
        refine zr_aload_n h dX3_changeAbout_81 0 rfl rfl ?_
        refine zr_getR h zfo_X3_22 lC_54 rfl dX3_changeAbout_82 ?_
        refine zr_iload h dX3_changeAbout_85 3 rfl ?_
        have hb := zOk_chk hk
        have hk := hb.2
        refine zr_iald h lC_58 hb.1 dX3_changeAbout_87 ?_
        refine zr_callSv h zcw_X3_112 (by decide) (c_X3_swap E 57 20 lC_57 M_68 (M_68.1 58 (zix s.2.2)) (M_68.1 58 (zix x4_38)) _ (zOk_bind hk)) rfl rfl (Nat.le_of_ble_eq_true rfl) dX3_changeAbout_88 (fun M_88 hk => ?_)
        obtain ⟨x3_91, ex⟩ : ∃ y : Int32, y = s.2.2 + (zI (-1)) := ⟨_, rfl⟩
        have hk := zOk_bnd ex hk
        refine zr_iinc (v := x3_91) (L' := [(0, zrf E 54), (2, .int x2_29), (3, .int x3_91)]) h 2 [1, 2, 0] dX3_changeAbout_91 rfl (by rw [ex]; rfl) (by decide) rfl ?_
        refine zr_goto (tgt := 9) h dX3_changeAbout_94 (by decide) ?_
        have hk := zOk_some hk
        exact zr_weak h [0, 1, 2] rfl hk
noncomputable def f_X3_changeAbout (M : ZMem) (x1 : Int32) : Option (ZMem × Int32) := zbnd ((M.1 54 7) - (zI 1)) (fun x3_8 => zbind (zloop (f_X3_changeAbout_L9) (M, x1, x3_8)) (fun e9 => some (e9.1, e9.2)))
set_option maxRecDepth 100000 in
set_option maxHeartbeats 4000000 in
theorem c_X3_changeAbout (E : ZEv) (M : ZMem) (x1 : Int32) (K : ZMem × Int32 → Prop) (hk : zOk (f_X3_changeAbout M x1) K) : zCon lyC E yX3_changeAbout cX3_changeAbout 5 (some .int) 1 [zrf E 54, .int x1] M (zRm K) := by
  refine zcon_of (L0 := [(0, zrf E 54), (1, .int x1)]) (by decide) rfl (Nat.le_of_ble_eq_true rfl) (fun G h => ?_)
  have h : zRu lyC E G (zRm K) cX3_changeAbout RX3 5 (some .int) 1 := h
  unfold f_X3_changeAbout at hk
  refine zr_iload_n h dX3_changeAbout_0 1 rfl rfl ?_
  refine zr_istore_n (L' := [(0, zrf E 54), (2, .int x1)]) h [1, 0] dX3_changeAbout_1 rfl (by decide) rfl ?_
  refine zr_aload_n h dX3_changeAbout_2 0 rfl rfl ?_
  refine zr_getI h zfo_X3_37 lC_54 rfl dX3_changeAbout_3 ?_
  refine zr_iconst (v := (zI 1)) h dX3_changeAbout_6 rfl ?_
  refine zr_isub h dX3_changeAbout_7 ?_
  refine zr_topi (fun x3_8 ex => ?_)
  have hk := zOk_bnd ex hk
  refine zr_istore_n (L' := [(0, zrf E 54), (2, .int x1), (3, .int x3_8)]) h [1, 2, 0] dX3_changeAbout_8 rfl (by decide) rfl ?_
  refine w_X3_changeAbout_L9 h (M, x1, x3_8) (zOk_mono (zOk_bind hk) (fun e9 hk => ?_))
  refine zr_iload_n h dX3_changeAbout_97 0 rfl rfl ?_
  have hk := zOk_some hk
  exact zr_iret h dX3_changeAbout_98 ⟨_, rfl, hk⟩
theorem dX3_asGoodByChance_0 : decode cX3_asGoodByChance 0 = .ok (.iconst 0, 1) := by decide +kernel
theorem dX3_asGoodByChance_1 : decode cX3_asGoodByChance 1 = .ok (.istore_n 3, 1) := by decide +kernel
theorem dX3_asGoodByChance_2 : decode cX3_asGoodByChance 2 = .ok (.iload_n 2, 1) := by decide +kernel
theorem dX3_asGoodByChance_3 : decode cX3_asGoodByChance 3 = .ok (.istore 4, 2) := by decide +kernel
theorem dX3_asGoodByChance_5 : decode cX3_asGoodByChance 5 = .ok (.iconst 0, 1) := by decide +kernel
theorem dX3_asGoodByChance_6 : decode cX3_asGoodByChance 6 = .ok (.istore 5, 2) := by decide +kernel
theorem dX3_asGoodByChance_8 : decode cX3_asGoodByChance 8 = .ok (.iload 5, 2) := by decide +kernel
theorem dX3_asGoodByChance_10 : decode cX3_asGoodByChance 10 = .ok (.iload_n 1, 1) := by decide +kernel
theorem dX3_asGoodByChance_11 : decode cX3_asGoodByChance 11 = .ok (.if_icmp .ge 40, 3) := by decide +kernel
theorem dX3_asGoodByChance_14 : decode cX3_asGoodByChance 14 = .ok (.aload_n 0, 1) := by decide +kernel
theorem dX3_asGoodByChance_15 : decode cX3_asGoodByChance 15 = .ok (.invokevirtual 47, 3) := by decide +kernel
theorem dX3_asGoodByChance_18 : decode cX3_asGoodByChance 18 = .ok (.aload_n 0, 1) := by decide +kernel
theorem dX3_asGoodByChance_19 : decode cX3_asGoodByChance 19 = .ok (.iload 4, 2) := by decide +kernel
theorem dX3_asGoodByChance_21 : decode cX3_asGoodByChance 21 = .ok (.invokevirtual 102, 3) := by decide +kernel
theorem dX3_asGoodByChance_24 : decode cX3_asGoodByChance 24 = .ok (.istore 4, 2) := by decide +kernel
theorem dX3_asGoodByChance_26 : decode cX3_asGoodByChance 26 = .ok (.iload_n 3, 1) := by decide +kernel
theorem dX3_asGoodByChance_27 : decode cX3_asGoodByChance 27 = .ok (.aload_n 0, 1) := by decide +kernel
theorem dX3_asGoodByChance_28 : decode cX3_asGoodByChance 28 = .ok (.invokevirtual 72, 3) := by decide +kernel
theorem dX3_asGoodByChance_31 : decode cX3_asGoodByChance 31 = .ok (.aload_n 0, 1) := by decide +kernel
theorem dX3_asGoodByChance_32 : decode cX3_asGoodByChance 32 = .ok (.getfield 75, 3) := by decide +kernel
theorem dX3_asGoodByChance_35 : decode cX3_asGoodByChance 35 = .ok (.if_icmp .lt 7, 3) := by decide +kernel
theorem dX3_asGoodByChance_38 : decode cX3_asGoodByChance 38 = .ok (.iconst 1, 1) := by decide +kernel
theorem dX3_asGoodByChance_39 : decode cX3_asGoodByChance 39 = .ok (.goto 4, 3) := by decide +kernel
theorem dX3_asGoodByChance_42 : decode cX3_asGoodByChance 42 = .ok (.iconst 0, 1) := by decide +kernel
theorem dX3_asGoodByChance_43 : decode cX3_asGoodByChance 43 = .ok (.iadd, 1) := by decide +kernel
theorem dX3_asGoodByChance_44 : decode cX3_asGoodByChance 44 = .ok (.istore_n 3, 1) := by decide +kernel
theorem dX3_asGoodByChance_45 : decode cX3_asGoodByChance 45 = .ok (.iinc 5 1, 3) := by decide +kernel
theorem dX3_asGoodByChance_48 : decode cX3_asGoodByChance 48 = .ok (.goto (-40), 3) := by decide +kernel
theorem dX3_asGoodByChance_51 : decode cX3_asGoodByChance 51 = .ok (.aload_n 0, 1) := by decide +kernel
theorem dX3_asGoodByChance_52 : decode cX3_asGoodByChance 52 = .ok (.invokevirtual 47, 3) := by decide +kernel
theorem dX3_asGoodByChance_55 : decode cX3_asGoodByChance 55 = .ok (.iload_n 3, 1) := by decide +kernel
theorem dX3_asGoodByChance_56 : decode cX3_asGoodByChance 56 = .ok (.ireturn, 1) := by decide +kernel
noncomputable def f_X3_asGoodByChance_L8 (x1 : Int32) (s : (ZMem × Int32 × Int32 × Int32)) : Option ((ZMem × Int32 × Int32 × Int32) ⊕ (ZMem × Int32)) := if x1 ≤ s.2.2.2 then some (.inr (s.1, s.2.1)) else zbind (f_X3_takeKnown s.1) (fun M_15 => zbind (f_X3_changeAbout M_15 s.2.2.1) (fun r_21 => zbind (f_X3_countHits r_21.1) (fun r_28 => if r_28 < (r_21.1.1 54 8) then zbnd (s.2.1 + (zI 0)) (fun x3_44 => zbnd (s.2.2.2 + (zI 1)) (fun x5_45 => some (.inl (r_21.1, x3_44, r_21.2, x5_45)))) else zbnd (s.2.1 + (zI 1)) (fun x3_44 => zbnd (s.2.2.2 + (zI 1)) (fun x5_45 => some (.inl (r_21.1, x3_44, r_21.2, x5_45)))))))
set_option maxRecDepth 100000 in
set_option maxHeartbeats 4000000 in
theorem w_X3_asGoodByChance_L8 {E : ZEv} {G : ZG} {K : (ZMem × Int32) → Prop} (h : zRu lyC E G (zRm K) cX3_asGoodByChance RX3 6 (some .int) 4) (x1 : Int32) (s : (ZMem × Int32 × Int32 × Int32)) (hk : zOk (zloop (f_X3_asGoodByChance_L8 x1) s) (fun e => G e.1 51 [(0, zrf E 54), (3, .int e.2)] [])) : G s.1 8 [(0, zrf E 54), (1, .int x1), (3, .int s.2.1), (4, .int s.2.2.1), (5, .int s.2.2.2)] [] := by
  refine zloop_walk (P := fun s => G s.1 8 [(0, zrf E 54), (1, .int x1), (3, .int s.2.1), (4, .int s.2.2.1), (5, .int s.2.2.2)] []) hk (fun s hk => ?_)
  unfold f_X3_asGoodByChance_L8 at hk
  refine zr_iload h dX3_asGoodByChance_8 4 rfl ?_
  refine zr_iload_n h dX3_asGoodByChance_10 1 rfl rfl ?_
  refine zr_icmp_ge (tgt := 51) h dX3_asGoodByChance_11 (by decide) (fun c => ?_) (fun c => ?_)
  · have hk := zOk_t c hk
    have hk := zOk_some hk
    exact zr_weak h [0, 2] rfl hk
  · have hk := zOk_f c hk
    refine zr_aload_n h dX3_asGoodByChance_14 0 rfl rfl ?_
    refine zr_callVv h lC_54 zcw_X3_47 (by decide) (c_X3_takeKnown E s.1 _ (zOk_bind hk)) rfl rfl (Nat.le_of_ble_eq_true rfl) dX3_asGoodByChance_15 (fun M_15 hk => ?_)
    refine zr_aload_n h dX3_asGoodByChance_18 0 rfl rfl ?_
    refine zr_iload h dX3_asGoodByChance_19 3 rfl ?_
    refine zr_callVm h lC_54 zcw_X3_102 (by decide) (c_X3_changeAbout E M_15 s.2.2.1 _ (zOk_bind hk)) rfl rfl (Nat.le_of_ble_eq_true rfl) dX3_asGoodByChance_21 (fun r_21 hk => ?_)
    refine zr_istore (L' := [(0, zrf E 54), (1, .int x1), (3, .int s.2.1), (4, .int r_21.2), (5, .int s.2.2.2)]) h [1, 2, 3, 0, 4] dX3_asGoodByChance_24 (by decide) rfl ?_
    refine zr_iload_n h dX3_asGoodByChance_26 2 rfl rfl ?_
    refine zr_aload_n h dX3_asGoodByChance_27 0 rfl rfl ?_
    refine zr_callVp h lC_54 zcw_X3_72 (by decide) (c_X3_countHits E r_21.1 _ (zOk_bind hk)) rfl rfl (Nat.le_of_ble_eq_true rfl) dX3_asGoodByChance_28 (fun r_28 hk => ?_)
    refine zr_aload_n h dX3_asGoodByChance_31 0 rfl rfl ?_
    refine zr_getI h zfo_X3_75 lC_54 rfl dX3_asGoodByChance_32 ?_
    refine zr_icmp_lt (tgt := 42) h dX3_asGoodByChance_35 (by decide) (fun c => ?_) (fun c => ?_)
    · have hk := zOk_t c hk
      refine zr_iconst (v := (zI 0)) h dX3_asGoodByChance_42 rfl ?_
      refine zr_iadd h dX3_asGoodByChance_43 ?_
      refine zr_topi (fun x3_44 ex => ?_)
      have hk := zOk_bnd ex hk
      refine zr_istore_n (L' := [(0, zrf E 54), (1, .int x1), (3, .int x3_44), (4, .int r_21.2), (5, .int s.2.2.2)]) h [1, 2, 0, 3, 4] dX3_asGoodByChance_44 rfl (by decide) rfl ?_
      obtain ⟨x5_45, ex⟩ : ∃ y : Int32, y = s.2.2.2 + (zI 1) := ⟨_, rfl⟩
      have hk := zOk_bnd ex hk
      refine zr_iinc (v := x5_45) (L' := [(0, zrf E 54), (1, .int x1), (3, .int x3_44), (4, .int r_21.2), (5, .int x5_45)]) h 4 [1, 2, 3, 4, 0] dX3_asGoodByChance_45 rfl (by rw [ex]; rfl) (by decide) rfl ?_
      refine zr_goto (tgt := 8) h dX3_asGoodByChance_48 (by decide) ?_
      have hk := zOk_some hk
      exact zr_weak h [0, 1, 2, 3, 4] rfl hk
    · have hk := zOk_f c hk
      refine zr_iconst (v := (zI 1)) h dX3_asGoodByChance_38 rfl ?_
      refine zr_goto (tgt := 43) h dX3_asGoodByChance_39 (by decide) ?_
      refine zr_iadd h dX3_asGoodByChance_43 ?_
      refine zr_topi (fun x3_44 ex => ?_)
      have hk := zOk_bnd ex hk
      refine zr_istore_n (L' := [(0, zrf E 54), (1, .int x1), (3, .int x3_44), (4, .int r_21.2), (5, .int s.2.2.2)]) h [1, 2, 0, 3, 4] dX3_asGoodByChance_44 rfl (by decide) rfl ?_
      obtain ⟨x5_45, ex⟩ : ∃ y : Int32, y = s.2.2.2 + (zI 1) := ⟨_, rfl⟩
      have hk := zOk_bnd ex hk
      refine zr_iinc (v := x5_45) (L' := [(0, zrf E 54), (1, .int x1), (3, .int x3_44), (4, .int r_21.2), (5, .int x5_45)]) h 4 [1, 2, 3, 4, 0] dX3_asGoodByChance_45 rfl (by rw [ex]; rfl) (by decide) rfl ?_
      refine zr_goto (tgt := 8) h dX3_asGoodByChance_48 (by decide) ?_
      have hk := zOk_some hk
      exact zr_weak h [0, 1, 2, 3, 4] rfl hk
noncomputable def f_X3_asGoodByChance (M : ZMem) (x1 : Int32) (x2 : Int32) : Option (ZMem × Int32) := zbind (zloop (f_X3_asGoodByChance_L8 x1) (M, (zI 0), x2, (zI 0))) (fun e8 => zbind (f_X3_takeKnown e8.1) (fun M_52 => some (M_52, e8.2)))
set_option maxRecDepth 100000 in
set_option maxHeartbeats 4000000 in
theorem c_X3_asGoodByChance (E : ZEv) (M : ZMem) (x1 : Int32) (x2 : Int32) (K : ZMem × Int32 → Prop) (hk : zOk (f_X3_asGoodByChance M x1 x2) K) : zCon lyC E yX3_asGoodByChance cX3_asGoodByChance 6 (some .int) 4 [zrf E 54, .int x1, .int x2] M (zRm K) := by
  refine zcon_of (L0 := [(0, zrf E 54), (1, .int x1), (2, .int x2)]) (by decide) rfl (Nat.le_of_ble_eq_true rfl) (fun G h => ?_)
  have h : zRu lyC E G (zRm K) cX3_asGoodByChance RX3 6 (some .int) 4 := h
  unfold f_X3_asGoodByChance at hk
  refine zr_iconst (v := (zI 0)) h dX3_asGoodByChance_0 rfl ?_
  refine zr_istore_n (L' := [(0, zrf E 54), (1, .int x1), (2, .int x2), (3, .int (zI 0))]) h [1, 2, 3, 0] dX3_asGoodByChance_1 rfl (by decide) rfl ?_
  refine zr_iload_n h dX3_asGoodByChance_2 2 rfl rfl ?_
  refine zr_istore (L' := [(0, zrf E 54), (1, .int x1), (3, .int (zI 0)), (4, .int x2)]) h [1, 2, 4, 0] dX3_asGoodByChance_3 (by decide) rfl ?_
  refine zr_iconst (v := (zI 0)) h dX3_asGoodByChance_5 rfl ?_
  refine zr_istore (L' := [(0, zrf E 54), (1, .int x1), (3, .int (zI 0)), (4, .int x2), (5, .int (zI 0))]) h [1, 2, 3, 4, 0] dX3_asGoodByChance_6 (by decide) rfl ?_
  refine w_X3_asGoodByChance_L8 h x1 (M, (zI 0), x2, (zI 0)) (zOk_mono (zOk_bind hk) (fun e8 hk => ?_))
  refine zr_aload_n h dX3_asGoodByChance_51 0 rfl rfl ?_
  refine zr_callVv h lC_54 zcw_X3_47 (by decide) (c_X3_takeKnown E e8.1 _ (zOk_bind hk)) rfl rfl (Nat.le_of_ble_eq_true rfl) dX3_asGoodByChance_52 (fun M_52 hk => ?_)
  refine zr_iload_n h dX3_asGoodByChance_55 1 rfl rfl ?_
  have hk := zOk_some hk
  exact zr_iret h dX3_asGoodByChance_56 ⟨_, rfl, hk⟩
theorem dX9_claim_0 : decode cX9_claim 0 = .ok (.iload_n 1, 1) := by decide +kernel
theorem dX9_claim_1 : decode cX9_claim 1 = .ok (.ifCond .lt 9, 3) := by decide +kernel
theorem dX9_claim_4 : decode cX9_claim 4 = .ok (.iload_n 1, 1) := by decide +kernel
theorem dX9_claim_5 : decode cX9_claim 5 = .ok (.aload_n 0, 1) := by decide +kernel
theorem dX9_claim_6 : decode cX9_claim 6 = .ok (.arraylength, 1) := by decide +kernel
theorem dX9_claim_7 : decode cX9_claim 7 = .ok (.if_icmp .lt 5, 3) := by decide +kernel
theorem dX9_claim_10 : decode cX9_claim 10 = .ok (.iconst 0, 1) := by decide +kernel
theorem dX9_claim_11 : decode cX9_claim 11 = .ok (.ireturn, 1) := by decide +kernel
theorem dX9_claim_12 : decode cX9_claim 12 = .ok (.aload_n 0, 1) := by decide +kernel
theorem dX9_claim_13 : decode cX9_claim 13 = .ok (.iload_n 1, 1) := by decide +kernel
theorem dX9_claim_14 : decode cX9_claim 14 = .ok (.iaload, 1) := by decide +kernel
theorem dX9_claim_15 : decode cX9_claim 15 = .ok (.iconst (-1), 1) := by decide +kernel
theorem dX9_claim_16 : decode cX9_claim 16 = .ok (.if_icmp .ne 7, 3) := by decide +kernel
theorem dX9_claim_19 : decode cX9_claim 19 = .ok (.aload_n 0, 1) := by decide +kernel
theorem dX9_claim_20 : decode cX9_claim 20 = .ok (.iload_n 1, 1) := by decide +kernel
theorem dX9_claim_21 : decode cX9_claim 21 = .ok (.iload_n 2, 1) := by decide +kernel
theorem dX9_claim_22 : decode cX9_claim 22 = .ok (.iastore, 1) := by decide +kernel
theorem dX9_claim_23 : decode cX9_claim 23 = .ok (.aload_n 0, 1) := by decide +kernel
theorem dX9_claim_24 : decode cX9_claim 24 = .ok (.iload_n 1, 1) := by decide +kernel
theorem dX9_claim_25 : decode cX9_claim 25 = .ok (.iaload, 1) := by decide +kernel
theorem dX9_claim_26 : decode cX9_claim 26 = .ok (.iload_n 2, 1) := by decide +kernel
theorem dX9_claim_27 : decode cX9_claim 27 = .ok (.if_icmp .ne 7, 3) := by decide +kernel
theorem dX9_claim_30 : decode cX9_claim 30 = .ok (.iconst 0, 1) := by decide +kernel
theorem dX9_claim_31 : decode cX9_claim 31 = .ok (.goto 6, 3) := by decide +kernel
theorem dX9_claim_34 : decode cX9_claim 34 = .ok (.iconst 1, 1) := by decide +kernel
theorem dX9_claim_35 : decode cX9_claim 35 = .ok (.iload_n 1, 1) := by decide +kernel
theorem dX9_claim_36 : decode cX9_claim 36 = .ok (.ishl, 1) := by decide +kernel
theorem dX9_claim_37 : decode cX9_claim 37 = .ok (.ireturn, 1) := by decide +kernel
noncomputable def f_X9_claim_23 (q0 : Nat) (n0 : Nat) (M : ZMem) (x1 : Int32) (x2 : Int32) : Option (ZMem × Int32) := zchk (zin x1 n0) (if (M.1 q0 (zix x1)) = x2 then some (M, (zI 0)) else some (M, ((zI 1) <<< (x1 &&& 31))))
set_option maxRecDepth 100000 in
set_option maxHeartbeats 4000000 in
theorem w_X9_claim_23 {ly : List ZEnt} {E : ZEv} {G : ZG} {K : (ZMem × Int32) → Prop} (h : zRu ly E G (zRm K) cX9_claim RX9 3 (some .int) 0) (q0 : Nat) (n0 : Nat) (hq0 : ly[q0]? = some (.inl (0, n0))) (M : ZMem) (x1 : Int32) (x2 : Int32) (hk : zOk (f_X9_claim_23 q0 n0 M x1 x2) K) : G M 23 [(0, zrf E q0), (1, .int x1), (2, .int x2)] [] := by
  unfold f_X9_claim_23 at hk
  refine zr_aload_n h dX9_claim_23 0 rfl rfl ?_
  refine zr_iload_n h dX9_claim_24 1 rfl rfl ?_
  have hb := zOk_chk hk
  have hk := hb.2
  refine zr_iald h hq0 hb.1 dX9_claim_25 ?_
  refine zr_iload_n h dX9_claim_26 2 rfl rfl ?_
  refine zr_icmp_ne (tgt := 34) h dX9_claim_27 (by decide) (fun c => ?_) (fun c => ?_)
  · have hk := zOk_t c hk
    refine zr_iconst (v := (zI 0)) h dX9_claim_30 rfl ?_
    refine zr_goto (tgt := 37) h dX9_claim_31 (by decide) ?_
    have hk := zOk_some hk
    exact zr_iret h dX9_claim_37 ⟨_, rfl, hk⟩
  · have hk := zOk_f c hk
    refine zr_iconst (v := (zI 1)) h dX9_claim_34 rfl ?_
    refine zr_iload_n h dX9_claim_35 1 rfl rfl ?_
    refine zr_ishl h dX9_claim_36 ?_
    have hk := zOk_some hk
    exact zr_iret h dX9_claim_37 ⟨_, rfl, hk⟩
noncomputable def f_X9_claim (q0 : Nat) (n0 : Nat) (M : ZMem) (x1 : Int32) (x2 : Int32) : Option (ZMem × Int32) := if x1 < (zI 0) then some (M, (zI 0)) else if x1 < (zI n0) then zchk (zin x1 n0) (if (M.1 q0 (zix x1)) = (zI (-1)) then zchk (zin x1 n0) (zbnd (zstI M q0 (zix x1) x2) (fun M_22 => f_X9_claim_23 q0 n0 M_22 x1 x2)) else f_X9_claim_23 q0 n0 M x1 x2) else some (M, (zI 0))
set_option maxRecDepth 100000 in
set_option maxHeartbeats 4000000 in
theorem c_X9_claim {ly : List ZEnt} (E : ZEv) (q0 : Nat) (n0 : Nat) (hq0 : ly[q0]? = some (.inl (0, n0))) (M : ZMem) (x1 : Int32) (x2 : Int32) (K : ZMem × Int32 → Prop) (hk : zOk (f_X9_claim q0 n0 M x1 x2) K) : zCon ly E yX9_claim cX9_claim 3 (some .int) 0 [zrf E q0, .int x1, .int x2] M (zRm K) := by
  refine zcon_of (L0 := [(0, zrf E q0), (1, .int x1), (2, .int x2)]) (by decide) rfl (Nat.le_of_ble_eq_true rfl) (fun G h => ?_)
  have h : zRu ly E G (zRm K) cX9_claim RX9 3 (some .int) 0 := h
  unfold f_X9_claim at hk
  refine zr_iload_n h dX9_claim_0 1 rfl rfl ?_
  refine zr_if_lt (tgt := 10) h dX9_claim_1 (by decide) (fun c => ?_) (fun c => ?_)
  · have hk := zOk_t c hk
    refine zr_iconst (v := (zI 0)) h dX9_claim_10 rfl ?_
    have hk := zOk_some hk
    exact zr_iret h dX9_claim_11 ⟨_, rfl, hk⟩
  · have hk := zOk_f c hk
    refine zr_iload_n h dX9_claim_4 1 rfl rfl ?_
    refine zr_aload_n h dX9_claim_5 0 rfl rfl ?_
    refine zr_alen h (by decide) hq0 dX9_claim_6 ?_
    refine zr_icmp_lt (tgt := 12) h dX9_claim_7 (by decide) (fun c => ?_) (fun c => ?_)
    · have hk := zOk_t c hk
      refine zr_aload_n h dX9_claim_12 0 rfl rfl ?_
      refine zr_iload_n h dX9_claim_13 1 rfl rfl ?_
      have hb := zOk_chk hk
      have hk := hb.2
      refine zr_iald h hq0 hb.1 dX9_claim_14 ?_
      refine zr_iconst (v := (zI (-1))) h dX9_claim_15 rfl ?_
      refine zr_icmp_ne (tgt := 23) h dX9_claim_16 (by decide) (fun c => ?_) (fun c => ?_)
      · have hk := zOk_t c hk
        refine zr_aload_n h dX9_claim_19 0 rfl rfl ?_
        refine zr_iload_n h dX9_claim_20 1 rfl rfl ?_
        refine zr_iload_n h dX9_claim_21 2 rfl rfl ?_
        have hb := zOk_chk hk
        have hk := hb.2
        refine zr_iast h hq0 hb.1 dX9_claim_22 ?_
        refine zr_mem (fun M_22 eM => ?_)
        have hk := zOk_bnd eM hk
        exact w_X9_claim_23 h q0 n0 hq0 M_22 x1 x2 hk
      · have hk := zOk_f c hk
        exact w_X9_claim_23 h q0 n0 hq0 M x1 x2 hk
    · have hk := zOk_f c hk
      refine zr_iconst (v := (zI 0)) h dX9_claim_10 rfl ?_
      have hk := zOk_some hk
      exact zr_iret h dX9_claim_11 ⟨_, rfl, hk⟩
theorem dX9_gatherGuesses_0 : decode cX9_gatherGuesses 0 = .ok (.aload_n 0, 1) := by decide +kernel
theorem dX9_gatherGuesses_1 : decode cX9_gatherGuesses 1 = .ok (.getfield 18, 3) := by decide +kernel
theorem dX9_gatherGuesses_4 : decode cX9_gatherGuesses 4 = .ok (.iconst (-1), 1) := by decide +kernel
theorem dX9_gatherGuesses_5 : decode cX9_gatherGuesses 5 = .ok (.invokestatic 28, 3) := by decide +kernel
theorem dX9_gatherGuesses_8 : decode cX9_gatherGuesses 8 = .ok (.aload_n 0, 1) := by decide +kernel
theorem dX9_gatherGuesses_9 : decode cX9_gatherGuesses 9 = .ok (.getfield 21, 3) := by decide +kernel
theorem dX9_gatherGuesses_12 : decode cX9_gatherGuesses 12 = .ok (.iconst (-1), 1) := by decide +kernel
theorem dX9_gatherGuesses_13 : decode cX9_gatherGuesses 13 = .ok (.invokestatic 28, 3) := by decide +kernel
theorem dX9_gatherGuesses_16 : decode cX9_gatherGuesses 16 = .ok (.aload_n 0, 1) := by decide +kernel
theorem dX9_gatherGuesses_17 : decode cX9_gatherGuesses 17 = .ok (.iconst 0, 1) := by decide +kernel
theorem dX9_gatherGuesses_18 : decode cX9_gatherGuesses 18 = .ok (.putfield 57, 3) := by decide +kernel
theorem dX9_gatherGuesses_21 : decode cX9_gatherGuesses 21 = .ok (.aload_n 0, 1) := by decide +kernel
theorem dX9_gatherGuesses_22 : decode cX9_gatherGuesses 22 = .ok (.iconst 0, 1) := by decide +kernel
theorem dX9_gatherGuesses_23 : decode cX9_gatherGuesses 23 = .ok (.putfield 60, 3) := by decide +kernel
theorem dX9_gatherGuesses_26 : decode cX9_gatherGuesses 26 = .ok (.iconst 0, 1) := by decide +kernel
theorem dX9_gatherGuesses_27 : decode cX9_gatherGuesses 27 = .ok (.istore 5, 2) := by decide +kernel
theorem dX9_gatherGuesses_29 : decode cX9_gatherGuesses 29 = .ok (.iload 5, 2) := by decide +kernel
theorem dX9_gatherGuesses_31 : decode cX9_gatherGuesses 31 = .ok (.aload_n 1, 1) := by decide +kernel
theorem dX9_gatherGuesses_32 : decode cX9_gatherGuesses 32 = .ok (.invokevirtual 63, 3) := by decide +kernel
theorem dX9_gatherGuesses_35 : decode cX9_gatherGuesses 35 = .ok (.if_icmp .ge 84, 3) := by decide +kernel
theorem dX9_gatherGuesses_38 : decode cX9_gatherGuesses 38 = .ok (.aload_n 2, 1) := by decide +kernel
theorem dX9_gatherGuesses_39 : decode cX9_gatherGuesses 39 = .ok (.iload 5, 2) := by decide +kernel
theorem dX9_gatherGuesses_41 : decode cX9_gatherGuesses 41 = .ok (.invokevirtual 67, 3) := by decide +kernel
theorem dX9_gatherGuesses_44 : decode cX9_gatherGuesses 44 = .ok (.istore 6, 2) := by decide +kernel
theorem dX9_gatherGuesses_46 : decode cX9_gatherGuesses 46 = .ok (.iload 6, 2) := by decide +kernel
theorem dX9_gatherGuesses_48 : decode cX9_gatherGuesses 48 = .ok (.iconst (-1), 1) := by decide +kernel
theorem dX9_gatherGuesses_49 : decode cX9_gatherGuesses 49 = .ok (.if_icmp .eq 64, 3) := by decide +kernel
theorem dX9_gatherGuesses_52 : decode cX9_gatherGuesses 52 = .ok (.aload_n 1, 1) := by decide +kernel
theorem dX9_gatherGuesses_53 : decode cX9_gatherGuesses 53 = .ok (.iload 5, 2) := by decide +kernel
theorem dX9_gatherGuesses_55 : decode cX9_gatherGuesses 55 = .ok (.invokevirtual 72, 3) := by decide +kernel
theorem dX9_gatherGuesses_58 : decode cX9_gatherGuesses 58 = .ok (.istore 7, 2) := by decide +kernel
theorem dX9_gatherGuesses_60 : decode cX9_gatherGuesses 60 = .ok (.aload_n 0, 1) := by decide +kernel
theorem dX9_gatherGuesses_61 : decode cX9_gatherGuesses 61 = .ok (.dup, 1) := by decide +kernel
theorem dX9_gatherGuesses_62 : decode cX9_gatherGuesses 62 = .ok (.getfield 57, 3) := by decide +kernel
theorem dX9_gatherGuesses_65 : decode cX9_gatherGuesses 65 = .ok (.aload_n 0, 1) := by decide +kernel
theorem dX9_gatherGuesses_66 : decode cX9_gatherGuesses 66 = .ok (.getfield 18, 3) := by decide +kernel
theorem dX9_gatherGuesses_69 : decode cX9_gatherGuesses 69 = .ok (.aload_n 3, 1) := by decide +kernel
theorem dX9_gatherGuesses_70 : decode cX9_gatherGuesses 70 = .ok (.iload 7, 2) := by decide +kernel
theorem dX9_gatherGuesses_72 : decode cX9_gatherGuesses 72 = .ok (.invokevirtual 44, 3) := by decide +kernel
theorem dX9_gatherGuesses_75 : decode cX9_gatherGuesses 75 = .ok (.iload 6, 2) := by decide +kernel
theorem dX9_gatherGuesses_77 : decode cX9_gatherGuesses 77 = .ok (.iconst 5, 1) := by decide +kernel
theorem dX9_gatherGuesses_78 : decode cX9_gatherGuesses 78 = .ok (.idiv, 1) := by decide +kernel
theorem dX9_gatherGuesses_79 : decode cX9_gatherGuesses 79 = .ok (.invokestatic 75, 3) := by decide +kernel
theorem dX9_gatherGuesses_82 : decode cX9_gatherGuesses 82 = .ok (.ior, 1) := by decide +kernel
theorem dX9_gatherGuesses_83 : decode cX9_gatherGuesses 83 = .ok (.putfield 57, 3) := by decide +kernel
theorem dX9_gatherGuesses_86 : decode cX9_gatherGuesses 86 = .ok (.aload_n 0, 1) := by decide +kernel
theorem dX9_gatherGuesses_87 : decode cX9_gatherGuesses 87 = .ok (.dup, 1) := by decide +kernel
theorem dX9_gatherGuesses_88 : decode cX9_gatherGuesses 88 = .ok (.getfield 60, 3) := by decide +kernel
theorem dX9_gatherGuesses_91 : decode cX9_gatherGuesses 91 = .ok (.aload_n 0, 1) := by decide +kernel
theorem dX9_gatherGuesses_92 : decode cX9_gatherGuesses 92 = .ok (.getfield 21, 3) := by decide +kernel
theorem dX9_gatherGuesses_95 : decode cX9_gatherGuesses 95 = .ok (.aload 4, 2) := by decide +kernel
theorem dX9_gatherGuesses_97 : decode cX9_gatherGuesses 97 = .ok (.iload 7, 2) := by decide +kernel
theorem dX9_gatherGuesses_99 : decode cX9_gatherGuesses 99 = .ok (.invokevirtual 44, 3) := by decide +kernel
theorem dX9_gatherGuesses_102 : decode cX9_gatherGuesses 102 = .ok (.iload 6, 2) := by decide +kernel
theorem dX9_gatherGuesses_104 : decode cX9_gatherGuesses 104 = .ok (.iconst 5, 1) := by decide +kernel
theorem dX9_gatherGuesses_105 : decode cX9_gatherGuesses 105 = .ok (.irem, 1) := by decide +kernel
theorem dX9_gatherGuesses_106 : decode cX9_gatherGuesses 106 = .ok (.invokestatic 75, 3) := by decide +kernel
theorem dX9_gatherGuesses_109 : decode cX9_gatherGuesses 109 = .ok (.ior, 1) := by decide +kernel
theorem dX9_gatherGuesses_110 : decode cX9_gatherGuesses 110 = .ok (.putfield 60, 3) := by decide +kernel
theorem dX9_gatherGuesses_113 : decode cX9_gatherGuesses 113 = .ok (.iinc 5 1, 3) := by decide +kernel
theorem dX9_gatherGuesses_116 : decode cX9_gatherGuesses 116 = .ok (.goto (-87), 3) := by decide +kernel
theorem dX9_gatherGuesses_119 : decode cX9_gatherGuesses 119 = .ok (.return_, 1) := by decide +kernel
noncomputable def f_X9_gatherGuesses_L29 (s : (ZMem × Int32)) : Option ((ZMem × Int32) ⊕ (ZMem)) := zbind (f_X0_told s.1) (fun r_32 => if r_32 ≤ s.2 then some (.inr s.1) else zbind (f_X1_guessOf s.1 s.2) (fun r_41 => if r_41 = (zI (-1)) then zbnd (s.2 + (zI 1)) (fun x5_113 => some (.inl (s.1, x5_113))) else zbind (f_X0_signOf s.1 s.2) (fun r_55 => zbind (f_X5_labelOf 41 s.1 r_55) (fun r_72 => zbind (f_X9_claim 52 20 s.1 r_72 (r_41 / (zI 5))) (fun r_79 => zbnd (zstI r_79.1 49 4 ((s.1.1 49 4) ||| r_79.2)) (fun M_83 => zbind (f_X5_labelOf 45 M_83 r_55) (fun r_99 => zbind (f_X9_claim 53 20 M_83 r_99 (r_41 - r_41 / (zI 5) * (zI 5))) (fun r_106 => zbnd (zstI r_106.1 49 5 ((M_83.1 49 5) ||| r_106.2)) (fun M_110 => zbnd (s.2 + (zI 1)) (fun x5_113 => some (.inl (M_110, x5_113))))))))))))
set_option maxRecDepth 100000 in
set_option maxHeartbeats 4000000 in
theorem w_X9_gatherGuesses_L29 {E : ZEv} {G : ZG} {K : ZMem → Prop} (h : zRu lyC E G (zRv K) cX9_gatherGuesses RX9 8 none 2) (s : (ZMem × Int32)) (hk : zOk (zloop (f_X9_gatherGuesses_L29) s) (fun e => G e 119 [] [])) : G s.1 29 [(0, zrf E 49), (1, zrf E 3), (2, zrf E 20), (3, zrf E 41), (4, zrf E 45), (5, .int s.2)] [] := by
  refine zloop_walk (P := fun s => G s.1 29 [(0, zrf E 49), (1, zrf E 3), (2, zrf E 20), (3, zrf E 41), (4, zrf E 45), (5, .int s.2)] []) hk (fun s hk => ?_)
  unfold f_X9_gatherGuesses_L29 at hk
  refine zr_iload h dX9_gatherGuesses_29 5 rfl ?_
  refine zr_aload_n h dX9_gatherGuesses_31 1 rfl rfl ?_
  refine zr_callVp h lC_3 zcw_X9_63 (by decide) (c_X0_told E s.1 _ (zOk_bind hk)) rfl rfl (Nat.le_of_ble_eq_true rfl) dX9_gatherGuesses_32 (fun r_32 hk => ?_)
  refine zr_icmp_ge (tgt := 119) h dX9_gatherGuesses_35 (by decide) (fun c => ?_) (fun c => ?_)
  · have hk := zOk_t c hk
    have hk := zOk_some hk
    exact zr_weak h [] rfl hk
  · have hk := zOk_f c hk
    refine zr_aload_n h dX9_gatherGuesses_38 2 rfl rfl ?_
    refine zr_iload h dX9_gatherGuesses_39 5 rfl ?_
    refine zr_callVp h lC_20 zcw_X9_67 (by decide) (c_X1_guessOf E s.1 s.2 _ (zOk_bind hk)) rfl rfl (Nat.le_of_ble_eq_true rfl) dX9_gatherGuesses_41 (fun r_41 hk => ?_)
    refine zr_istore (L' := [(0, zrf E 49), (1, zrf E 3), (2, zrf E 20), (3, zrf E 41), (4, zrf E 45), (5, .int s.2), (6, .int r_41)]) h [1, 2, 3, 4, 5, 6, 0] dX9_gatherGuesses_44 (by decide) rfl ?_
    refine zr_iload h dX9_gatherGuesses_46 6 rfl ?_
    refine zr_iconst (v := (zI (-1))) h dX9_gatherGuesses_48 rfl ?_
    refine zr_icmp_eq (tgt := 113) h dX9_gatherGuesses_49 (by decide) (fun c => ?_) (fun c => ?_)
    · have hk := zOk_t c hk
      obtain ⟨x5_113, ex⟩ : ∃ y : Int32, y = s.2 + (zI 1) := ⟨_, rfl⟩
      have hk := zOk_bnd ex hk
      refine zr_iinc (v := x5_113) (L' := [(0, zrf E 49), (1, zrf E 3), (2, zrf E 20), (3, zrf E 41), (4, zrf E 45), (5, .int x5_113)]) h 5 [1, 2, 3, 4, 5, 0] dX9_gatherGuesses_113 rfl (by rw [ex]; rfl) (by decide) rfl ?_
      refine zr_goto (tgt := 29) h dX9_gatherGuesses_116 (by decide) ?_
      have hk := zOk_some hk
      exact zr_weak h [0, 1, 2, 3, 4, 5] rfl hk
    · have hk := zOk_f c hk
      refine zr_aload_n h dX9_gatherGuesses_52 1 rfl rfl ?_
      refine zr_iload h dX9_gatherGuesses_53 5 rfl ?_
      refine zr_callVp h lC_3 zcw_X9_72 (by decide) (c_X0_signOf E s.1 s.2 _ (zOk_bind hk)) rfl rfl (Nat.le_of_ble_eq_true rfl) dX9_gatherGuesses_55 (fun r_55 hk => ?_)
      refine zr_istore (L' := [(0, zrf E 49), (1, zrf E 3), (2, zrf E 20), (3, zrf E 41), (4, zrf E 45), (5, .int s.2), (6, .int r_41), (7, .int r_55)]) h [1, 2, 3, 4, 5, 6, 7, 0] dX9_gatherGuesses_58 (by decide) rfl ?_
      refine zr_aload_n h dX9_gatherGuesses_60 0 rfl rfl ?_
      refine zr_dup h dX9_gatherGuesses_61 rfl ?_
      refine zr_getI h zfo_X9_57 lC_49 rfl dX9_gatherGuesses_62 ?_
      refine zr_aload_n h dX9_gatherGuesses_65 0 rfl rfl ?_
      refine zr_getR h zfo_X9_18 lC_49 rfl dX9_gatherGuesses_66 ?_
      refine zr_aload_n h dX9_gatherGuesses_69 3 rfl rfl ?_
      refine zr_iload h dX9_gatherGuesses_70 7 rfl ?_
      refine zr_callVp h lC_41 zcw_X9_44 (by decide) (c_X5_labelOf E 41 lC_41 lC_42 lC_43 lC_44 s.1 r_55 _ (zOk_bind hk)) rfl rfl (Nat.le_of_ble_eq_true rfl) dX9_gatherGuesses_72 (fun r_72 hk => ?_)
      refine zr_iload h dX9_gatherGuesses_75 6 rfl ?_
      refine zr_iconst (v := (zI 5)) h dX9_gatherGuesses_77 rfl ?_
      refine zr_idiv h dX9_gatherGuesses_78 (by decide) ?_
      refine zr_callSm h zcw_X9_75 (by decide) (c_X9_claim E 52 20 lC_52 s.1 r_72 (r_41 / (zI 5)) _ (zOk_bind hk)) rfl rfl (Nat.le_of_ble_eq_true rfl) dX9_gatherGuesses_79 (fun r_79 hk => ?_)
      refine zr_ior h dX9_gatherGuesses_82 ?_
      refine zr_putI h zfp_X9_57 lC_49 rfl dX9_gatherGuesses_83 ?_
      refine zr_mem (fun M_83 eM => ?_)
      have hk := zOk_bnd eM hk
      refine zr_aload_n h dX9_gatherGuesses_86 0 rfl rfl ?_
      refine zr_dup h dX9_gatherGuesses_87 rfl ?_
      refine zr_getI h zfo_X9_60 lC_49 rfl dX9_gatherGuesses_88 ?_
      refine zr_aload_n h dX9_gatherGuesses_91 0 rfl rfl ?_
      refine zr_getR h zfo_X9_21 lC_49 rfl dX9_gatherGuesses_92 ?_
      refine zr_aload h dX9_gatherGuesses_95 4 rfl ?_
      refine zr_iload h dX9_gatherGuesses_97 7 rfl ?_
      refine zr_callVp h lC_45 zcw_X9_44 (by decide) (c_X5_labelOf E 45 lC_45 lC_46 lC_47 lC_48 M_83 r_55 _ (zOk_bind hk)) rfl rfl (Nat.le_of_ble_eq_true rfl) dX9_gatherGuesses_99 (fun r_99 hk => ?_)
      refine zr_iload h dX9_gatherGuesses_102 6 rfl ?_
      refine zr_iconst (v := (zI 5)) h dX9_gatherGuesses_104 rfl ?_
      refine zr_irem h dX9_gatherGuesses_105 (by decide) ?_
      refine zr_callSm h zcw_X9_75 (by decide) (c_X9_claim E 53 20 lC_53 M_83 r_99 (r_41 - r_41 / (zI 5) * (zI 5)) _ (zOk_bind hk)) rfl rfl (Nat.le_of_ble_eq_true rfl) dX9_gatherGuesses_106 (fun r_106 hk => ?_)
      refine zr_ior h dX9_gatherGuesses_109 ?_
      refine zr_putI h zfp_X9_60 lC_49 rfl dX9_gatherGuesses_110 ?_
      refine zr_mem (fun M_110 eM => ?_)
      have hk := zOk_bnd eM hk
      obtain ⟨x5_113, ex⟩ : ∃ y : Int32, y = s.2 + (zI 1) := ⟨_, rfl⟩
      have hk := zOk_bnd ex hk
      refine zr_iinc (v := x5_113) (L' := [(0, zrf E 49), (1, zrf E 3), (2, zrf E 20), (3, zrf E 41), (4, zrf E 45), (5, .int x5_113)]) h 5 [1, 2, 3, 4, 5, 0] dX9_gatherGuesses_113 rfl (by rw [ex]; rfl) (by decide) rfl ?_
      refine zr_goto (tgt := 29) h dX9_gatherGuesses_116 (by decide) ?_
      have hk := zOk_some hk
      exact zr_weak h [0, 1, 2, 3, 4, 5] rfl hk
noncomputable def f_X9_gatherGuesses (M : ZMem) : Option ZMem := zbind (f_J7_fill_53178 52 20 M (zI (-1))) (fun M_5 => zbind (f_J7_fill_53178 53 20 M_5 (zI (-1))) (fun M_13 => zbnd (zstI M_13 49 4 (zI 0)) (fun M_18 => zbnd (zstI M_18 49 5 (zI 0)) (fun M_23 => zbind (zloop (f_X9_gatherGuesses_L29) (M_23, (zI 0))) (fun e29 => some e29)))))
set_option maxRecDepth 100000 in
set_option maxHeartbeats 4000000 in
theorem c_X9_gatherGuesses (E : ZEv) (M : ZMem) (K : ZMem → Prop) (hk : zOk (f_X9_gatherGuesses M) K) : zCon lyC E yX9_gatherGuesses cX9_gatherGuesses 8 none 2 [zrf E 49, zrf E 3, zrf E 20, zrf E 41, zrf E 45] M (zRv K) := by
  refine zcon_of (L0 := [(0, zrf E 49), (1, zrf E 3), (2, zrf E 20), (3, zrf E 41), (4, zrf E 45)]) (by decide) rfl (Nat.le_of_ble_eq_true rfl) (fun G h => ?_)
  have h : zRu lyC E G (zRv K) cX9_gatherGuesses RX9 8 none 2 := h
  unfold f_X9_gatherGuesses at hk
  refine zr_aload_n h dX9_gatherGuesses_0 0 rfl rfl ?_
  refine zr_getR h zfo_X9_18 lC_49 rfl dX9_gatherGuesses_1 ?_
  refine zr_iconst (v := (zI (-1))) h dX9_gatherGuesses_4 rfl ?_
  refine zr_callSv h zcw_X9_28 (by decide) (c_J7_fill_53178 E 52 20 lC_52 M (zI (-1)) _ (zOk_bind hk)) rfl rfl (Nat.le_of_ble_eq_true rfl) dX9_gatherGuesses_5 (fun M_5 hk => ?_)
  refine zr_aload_n h dX9_gatherGuesses_8 0 rfl rfl ?_
  refine zr_getR h zfo_X9_21 lC_49 rfl dX9_gatherGuesses_9 ?_
  refine zr_iconst (v := (zI (-1))) h dX9_gatherGuesses_12 rfl ?_
  refine zr_callSv h zcw_X9_28 (by decide) (c_J7_fill_53178 E 53 20 lC_53 M_5 (zI (-1)) _ (zOk_bind hk)) rfl rfl (Nat.le_of_ble_eq_true rfl) dX9_gatherGuesses_13 (fun M_13 hk => ?_)
  refine zr_aload_n h dX9_gatherGuesses_16 0 rfl rfl ?_
  refine zr_iconst (v := (zI 0)) h dX9_gatherGuesses_17 rfl ?_
  refine zr_putI h zfp_X9_57 lC_49 rfl dX9_gatherGuesses_18 ?_
  refine zr_mem (fun M_18 eM => ?_)
  have hk := zOk_bnd eM hk
  refine zr_aload_n h dX9_gatherGuesses_21 0 rfl rfl ?_
  refine zr_iconst (v := (zI 0)) h dX9_gatherGuesses_22 rfl ?_
  refine zr_putI h zfp_X9_60 lC_49 rfl dX9_gatherGuesses_23 ?_
  refine zr_mem (fun M_23 eM => ?_)
  have hk := zOk_bnd eM hk
  refine zr_iconst (v := (zI 0)) h dX9_gatherGuesses_26 rfl ?_
  refine zr_istore (L' := [(0, zrf E 49), (1, zrf E 3), (2, zrf E 20), (3, zrf E 41), (4, zrf E 45), (5, .int (zI 0))]) h [1, 2, 3, 4, 5, 0] dX9_gatherGuesses_27 (by decide) rfl ?_
  refine w_X9_gatherGuesses_L29 h (M_23, (zI 0)) (zOk_mono (zOk_bind hk) (fun e29 hk => ?_))
  have hk := zOk_some hk
  exact zr_vret h dX9_gatherGuesses_119 ⟨rfl, hk⟩
theorem dX9_spread_0 : decode cX9_spread 0 = .ok (.iload_n 1, 1) := by decide +kernel
theorem dX9_spread_1 : decode cX9_spread 1 = .ok (.invokestatic 79, 3) := by decide +kernel
theorem dX9_spread_4 : decode cX9_spread 4 = .ok (.ifCond .eq 17, 3) := by decide +kernel
theorem dX9_spread_7 : decode cX9_spread 7 = .ok (.iload_n 2, 1) := by decide +kernel
theorem dX9_spread_8 : decode cX9_spread 8 = .ok (.invokestatic 79, 3) := by decide +kernel
theorem dX9_spread_11 : decode cX9_spread 11 = .ok (.ifCond .eq 10, 3) := by decide +kernel
theorem dX9_spread_14 : decode cX9_spread 14 = .ok (.iload_n 3, 1) := by decide +kernel
theorem dX9_spread_15 : decode cX9_spread 15 = .ok (.invokestatic 79, 3) := by decide +kernel
theorem dX9_spread_18 : decode cX9_spread 18 = .ok (.ifCond .ne 4, 3) := by decide +kernel
theorem dX9_spread_21 : decode cX9_spread 21 = .ok (.return_, 1) := by decide +kernel
theorem dX9_spread_22 : decode cX9_spread 22 = .ok (.aload_n 0, 1) := by decide +kernel
theorem dX9_spread_23 : decode cX9_spread 23 = .ok (.getfield 9, 3) := by decide +kernel
theorem dX9_spread_26 : decode cX9_spread 26 = .ok (.iload_n 1, 1) := by decide +kernel
theorem dX9_spread_27 : decode cX9_spread 27 = .ok (.aload_n 0, 1) := by decide +kernel
theorem dX9_spread_28 : decode cX9_spread 28 = .ok (.getfield 18, 3) := by decide +kernel
theorem dX9_spread_31 : decode cX9_spread 31 = .ok (.iload_n 2, 1) := by decide +kernel
theorem dX9_spread_32 : decode cX9_spread 32 = .ok (.iaload, 1) := by decide +kernel
theorem dX9_spread_33 : decode cX9_spread 33 = .ok (.iastore, 1) := by decide +kernel
theorem dX9_spread_34 : decode cX9_spread 34 = .ok (.aload_n 0, 1) := by decide +kernel
theorem dX9_spread_35 : decode cX9_spread 35 = .ok (.getfield 15, 3) := by decide +kernel
theorem dX9_spread_38 : decode cX9_spread 38 = .ok (.iload_n 1, 1) := by decide +kernel
theorem dX9_spread_39 : decode cX9_spread 39 = .ok (.aload_n 0, 1) := by decide +kernel
theorem dX9_spread_40 : decode cX9_spread 40 = .ok (.getfield 21, 3) := by decide +kernel
theorem dX9_spread_43 : decode cX9_spread 43 = .ok (.iload_n 3, 1) := by decide +kernel
theorem dX9_spread_44 : decode cX9_spread 44 = .ok (.iaload, 1) := by decide +kernel
theorem dX9_spread_45 : decode cX9_spread 45 = .ok (.iastore, 1) := by decide +kernel
theorem dX9_spread_46 : decode cX9_spread 46 = .ok (.aload_n 0, 1) := by decide +kernel
theorem dX9_spread_47 : decode cX9_spread 47 = .ok (.getfield 57, 3) := by decide +kernel
theorem dX9_spread_50 : decode cX9_spread 50 = .ok (.iload_n 2, 1) := by decide +kernel
theorem dX9_spread_51 : decode cX9_spread 51 = .ok (.iushr, 1) := by decide +kernel
theorem dX9_spread_52 : decode cX9_spread 52 = .ok (.iconst 1, 1) := by decide +kernel
theorem dX9_spread_53 : decode cX9_spread 53 = .ok (.iand, 1) := by decide +kernel
theorem dX9_spread_54 : decode cX9_spread 54 = .ok (.iconst 1, 1) := by decide +kernel
theorem dX9_spread_55 : decode cX9_spread 55 = .ok (.if_icmp .eq 15, 3) := by decide +kernel
theorem dX9_spread_58 : decode cX9_spread 58 = .ok (.aload_n 0, 1) := by decide +kernel
theorem dX9_spread_59 : decode cX9_spread 59 = .ok (.getfield 60, 3) := by decide +kernel
theorem dX9_spread_62 : decode cX9_spread 62 = .ok (.iload_n 3, 1) := by decide +kernel
theorem dX9_spread_63 : decode cX9_spread 63 = .ok (.iushr, 1) := by decide +kernel
theorem dX9_spread_64 : decode cX9_spread 64 = .ok (.iconst 1, 1) := by decide +kernel
theorem dX9_spread_65 : decode cX9_spread 65 = .ok (.iand, 1) := by decide +kernel
theorem dX9_spread_66 : decode cX9_spread 66 = .ok (.iconst 1, 1) := by decide +kernel
theorem dX9_spread_67 : decode cX9_spread 67 = .ok (.if_icmp .ne 15, 3) := by decide +kernel
theorem dX9_spread_70 : decode cX9_spread 70 = .ok (.aload_n 0, 1) := by decide +kernel
theorem dX9_spread_71 : decode cX9_spread 71 = .ok (.dup, 1) := by decide +kernel
theorem dX9_spread_72 : decode cX9_spread 72 = .ok (.getfield 34, 3) := by decide +kernel
theorem dX9_spread_75 : decode cX9_spread 75 = .ok (.iconst 1, 1) := by decide +kernel
theorem dX9_spread_76 : decode cX9_spread 76 = .ok (.iload_n 1, 1) := by decide +kernel
theorem dX9_spread_77 : decode cX9_spread 77 = .ok (.ishl, 1) := by decide +kernel
theorem dX9_spread_78 : decode cX9_spread 78 = .ok (.ior, 1) := by decide +kernel
theorem dX9_spread_79 : decode cX9_spread 79 = .ok (.putfield 34, 3) := by decide +kernel
theorem dX9_spread_82 : decode cX9_spread 82 = .ok (.return_, 1) := by decide +kernel
noncomputable def f_X9_spread_70 (M : ZMem) (x1 : Int32) : Option ZMem := zbnd (zstI M 49 6 ((M.1 49 6) ||| ((zI 1) <<< (x1 &&& 31)))) (fun M_79 => some M_79)
set_option maxRecDepth 100000 in
set_option maxHeartbeats 4000000 in
theorem w_X9_spread_70 {E : ZEv} {G : ZG} {K : ZMem → Prop} (h : zRu lyC E G (zRv K) cX9_spread RX9 4 none 1) (M : ZMem) (x1 : Int32) (hk : zOk (f_X9_spread_70 M x1) K) : G M 70 [(0, zrf E 49), (1, .int x1)] [] := by
  unfold f_X9_spread_70 at hk
  refine zr_aload_n h dX9_spread_70 0 rfl rfl ?_
  refine zr_dup h dX9_spread_71 rfl ?_
  refine zr_getI h zfo_X9_34 lC_49 rfl dX9_spread_72 ?_
  refine zr_iconst (v := (zI 1)) h dX9_spread_75 rfl ?_
  refine zr_iload_n h dX9_spread_76 1 rfl rfl ?_
  refine zr_ishl h dX9_spread_77 ?_
  refine zr_ior h dX9_spread_78 ?_
  refine zr_putI h zfp_X9_34 lC_49 rfl dX9_spread_79 ?_
  refine zr_mem (fun M_79 eM => ?_)
  have hk := zOk_bnd eM hk
  have hk := zOk_some hk
  exact zr_vret h dX9_spread_82 ⟨rfl, hk⟩
noncomputable def f_X9_spread (M : ZMem) (x1 : Int32) (x2 : Int32) (x3 : Int32) : Option ZMem := zbind (f_X9_isPlace M x1) (fun r_1 => if r_1 = (zI 0) then some M else zbind (f_X9_isPlace M x2) (fun r_8 => if r_8 = (zI 0) then some M else zbind (f_X9_isPlace M x3) (fun r_15 => if r_15 = (zI 0) then some M else zchk (zin x2 20) (zchk (zin x1 20) (zbnd (zstI M 50 (zix x1) (M.1 52 (zix x2))) (fun M_33 => zchk (zin x3 20) (zchk (zin x1 20) (zbnd (zstI M_33 51 (zix x1) (M_33.1 53 (zix x3))) (fun M_45 => if ((zushr (M_45.1 49 4) x2) &&& (zI 1)) = (zI 1) then f_X9_spread_70 M_45 x1 else if ((zushr (M_45.1 49 5) x3) &&& (zI 1)) = (zI 1) then f_X9_spread_70 M_45 x1 else some M_45)))))))))
set_option maxRecDepth 100000 in
set_option maxHeartbeats 4000000 in
theorem c_X9_spread (E : ZEv) (M : ZMem) (x1 : Int32) (x2 : Int32) (x3 : Int32) (K : ZMem → Prop) (hk : zOk (f_X9_spread M x1 x2 x3) K) : zCon lyC E yX9_spread cX9_spread 4 none 1 [zrf E 49, .int x1, .int x2, .int x3] M (zRv K) := by
  refine zcon_of (L0 := [(0, zrf E 49), (1, .int x1), (2, .int x2), (3, .int x3)]) (by decide) rfl (Nat.le_of_ble_eq_true rfl) (fun G h => ?_)
  have h : zRu lyC E G (zRv K) cX9_spread RX9 4 none 1 := h
  unfold f_X9_spread at hk
  refine zr_iload_n h dX9_spread_0 1 rfl rfl ?_
  refine zr_callSp h zcw_X9_79 (by decide) (c_X9_isPlace E M x1 _ (zOk_bind hk)) rfl rfl (Nat.le_of_ble_eq_true rfl) dX9_spread_1 (fun r_1 hk => ?_)
  refine zr_if_eq (tgt := 21) h dX9_spread_4 (by decide) (fun c => ?_) (fun c => ?_)
  · have hk := zOk_t c hk
    have hk := zOk_some hk
    exact zr_vret h dX9_spread_21 ⟨rfl, hk⟩
  · have hk := zOk_f c hk
    refine zr_iload_n h dX9_spread_7 2 rfl rfl ?_
    refine zr_callSp h zcw_X9_79 (by decide) (c_X9_isPlace E M x2 _ (zOk_bind hk)) rfl rfl (Nat.le_of_ble_eq_true rfl) dX9_spread_8 (fun r_8 hk => ?_)
    refine zr_if_eq (tgt := 21) h dX9_spread_11 (by decide) (fun c => ?_) (fun c => ?_)
    · have hk := zOk_t c hk
      have hk := zOk_some hk
      exact zr_vret h dX9_spread_21 ⟨rfl, hk⟩
    · have hk := zOk_f c hk
      refine zr_iload_n h dX9_spread_14 3 rfl rfl ?_
      refine zr_callSp h zcw_X9_79 (by decide) (c_X9_isPlace E M x3 _ (zOk_bind hk)) rfl rfl (Nat.le_of_ble_eq_true rfl) dX9_spread_15 (fun r_15 hk => ?_)
      refine zr_if_ne (tgt := 22) h dX9_spread_18 (by decide) (fun c => ?_) (fun c => ?_)
      · have hk := zOk_t c hk
        have hk := zOk_some hk
        exact zr_vret h dX9_spread_21 ⟨rfl, hk⟩
      · have hk := zOk_f c hk
        refine zr_aload_n h dX9_spread_22 0 rfl rfl ?_
        refine zr_getR h zfo_X9_9 lC_49 rfl dX9_spread_23 ?_
        refine zr_iload_n h dX9_spread_26 1 rfl rfl ?_
        refine zr_aload_n h dX9_spread_27 0 rfl rfl ?_
        refine zr_getR h zfo_X9_18 lC_49 rfl dX9_spread_28 ?_
        refine zr_iload_n h dX9_spread_31 2 rfl rfl ?_
        have hb := zOk_chk hk
        have hk := hb.2
        refine zr_iald h lC_52 hb.1 dX9_spread_32 ?_
        have hb := zOk_chk hk
        have hk := hb.2
        refine zr_iast h lC_50 hb.1 dX9_spread_33 ?_
        refine zr_mem (fun M_33 eM => ?_)
        have hk := zOk_bnd eM hk
        refine zr_aload_n h dX9_spread_34 0 rfl rfl ?_
        refine zr_getR h zfo_X9_15 lC_49 rfl dX9_spread_35 ?_
        refine zr_iload_n h dX9_spread_38 1 rfl rfl ?_
        refine zr_aload_n h dX9_spread_39 0 rfl rfl ?_
        refine zr_getR h zfo_X9_21 lC_49 rfl dX9_spread_40 ?_
        refine zr_iload_n h dX9_spread_43 3 rfl rfl ?_
        have hb := zOk_chk hk
        have hk := hb.2
        refine zr_iald h lC_53 hb.1 dX9_spread_44 ?_
        have hb := zOk_chk hk
        have hk := hb.2
        refine zr_iast h lC_51 hb.1 dX9_spread_45 ?_
        refine zr_mem (fun M_45 eM => ?_)
        have hk := zOk_bnd eM hk
        refine zr_aload_n h dX9_spread_46 0 rfl rfl ?_
        refine zr_getI h zfo_X9_57 lC_49 rfl dX9_spread_47 ?_
        refine zr_iload_n h dX9_spread_50 2 rfl rfl ?_
        refine zr_iushr h dX9_spread_51 ?_
        refine zr_iconst (v := (zI 1)) h dX9_spread_52 rfl ?_
        refine zr_iand h dX9_spread_53 ?_
        refine zr_iconst (v := (zI 1)) h dX9_spread_54 rfl ?_
        refine zr_icmp_eq (tgt := 70) h dX9_spread_55 (by decide) (fun c => ?_) (fun c => ?_)
        · have hk := zOk_t c hk
          exact zr_weak h [0, 1] rfl (w_X9_spread_70 h M_45 x1 hk)
        · have hk := zOk_f c hk
          refine zr_aload_n h dX9_spread_58 0 rfl rfl ?_
          refine zr_getI h zfo_X9_60 lC_49 rfl dX9_spread_59 ?_
          refine zr_iload_n h dX9_spread_62 3 rfl rfl ?_
          refine zr_iushr h dX9_spread_63 ?_
          refine zr_iconst (v := (zI 1)) h dX9_spread_64 rfl ?_
          refine zr_iand h dX9_spread_65 ?_
          refine zr_iconst (v := (zI 1)) h dX9_spread_66 rfl ?_
          refine zr_icmp_ne (tgt := 82) h dX9_spread_67 (by decide) (fun c => ?_) (fun c => ?_)
          · have hk := zOk_t c hk
            exact zr_weak h [0, 1] rfl (w_X9_spread_70 h M_45 x1 hk)
          · have hk := zOk_f c hk
            have hk := zOk_some hk
            exact zr_vret h dX9_spread_82 ⟨rfl, hk⟩
theorem dX9_settle_0 : decode cX9_settle 0 = .ok (.aload_n 0, 1) := by decide +kernel
theorem dX9_settle_1 : decode cX9_settle 1 = .ok (.aload_n 1, 1) := by decide +kernel
theorem dX9_settle_2 : decode cX9_settle 2 = .ok (.aload_n 2, 1) := by decide +kernel
theorem dX9_settle_3 : decode cX9_settle 3 = .ok (.aload_n 3, 1) := by decide +kernel
theorem dX9_settle_4 : decode cX9_settle 4 = .ok (.aload 4, 2) := by decide +kernel
theorem dX9_settle_6 : decode cX9_settle 6 = .ok (.invokevirtual 24, 3) := by decide +kernel
theorem dX9_settle_9 : decode cX9_settle 9 = .ok (.aload_n 0, 1) := by decide +kernel
theorem dX9_settle_10 : decode cX9_settle 10 = .ok (.getfield 9, 3) := by decide +kernel
theorem dX9_settle_13 : decode cX9_settle 13 = .ok (.iconst (-1), 1) := by decide +kernel
theorem dX9_settle_14 : decode cX9_settle 14 = .ok (.invokestatic 28, 3) := by decide +kernel
theorem dX9_settle_17 : decode cX9_settle 17 = .ok (.aload_n 0, 1) := by decide +kernel
theorem dX9_settle_18 : decode cX9_settle 18 = .ok (.getfield 15, 3) := by decide +kernel
theorem dX9_settle_21 : decode cX9_settle 21 = .ok (.iconst (-1), 1) := by decide +kernel
theorem dX9_settle_22 : decode cX9_settle 22 = .ok (.invokestatic 28, 3) := by decide +kernel
theorem dX9_settle_25 : decode cX9_settle 25 = .ok (.aload_n 0, 1) := by decide +kernel
theorem dX9_settle_26 : decode cX9_settle 26 = .ok (.iconst 0, 1) := by decide +kernel
theorem dX9_settle_27 : decode cX9_settle 27 = .ok (.putfield 34, 3) := by decide +kernel
theorem dX9_settle_30 : decode cX9_settle 30 = .ok (.iconst 0, 1) := by decide +kernel
theorem dX9_settle_31 : decode cX9_settle 31 = .ok (.istore 5, 2) := by decide +kernel
theorem dX9_settle_33 : decode cX9_settle 33 = .ok (.iload 5, 2) := by decide +kernel
theorem dX9_settle_35 : decode cX9_settle 35 = .ok (.bipush 20, 2) := by decide +kernel
theorem dX9_settle_37 : decode cX9_settle 37 = .ok (.if_icmp .ge 37, 3) := by decide +kernel
theorem dX9_settle_40 : decode cX9_settle 40 = .ok (.aload_n 1, 1) := by decide +kernel
theorem dX9_settle_41 : decode cX9_settle 41 = .ok (.iload 5, 2) := by decide +kernel
theorem dX9_settle_43 : decode cX9_settle 43 = .ok (.invokevirtual 38, 3) := by decide +kernel
theorem dX9_settle_46 : decode cX9_settle 46 = .ok (.ifCond .eq 22, 3) := by decide +kernel
theorem dX9_settle_49 : decode cX9_settle 49 = .ok (.aload_n 0, 1) := by decide +kernel
theorem dX9_settle_50 : decode cX9_settle 50 = .ok (.iload 5, 2) := by decide +kernel
theorem dX9_settle_52 : decode cX9_settle 52 = .ok (.aload_n 3, 1) := by decide +kernel
theorem dX9_settle_53 : decode cX9_settle 53 = .ok (.iload 5, 2) := by decide +kernel
theorem dX9_settle_55 : decode cX9_settle 55 = .ok (.invokevirtual 44, 3) := by decide +kernel
theorem dX9_settle_58 : decode cX9_settle 58 = .ok (.aload 4, 2) := by decide +kernel
theorem dX9_settle_60 : decode cX9_settle 60 = .ok (.iload 5, 2) := by decide +kernel
theorem dX9_settle_62 : decode cX9_settle 62 = .ok (.invokevirtual 44, 3) := by decide +kernel
theorem dX9_settle_65 : decode cX9_settle 65 = .ok (.invokevirtual 50, 3) := by decide +kernel
theorem dX9_settle_68 : decode cX9_settle 68 = .ok (.iinc 5 1, 3) := by decide +kernel
theorem dX9_settle_71 : decode cX9_settle 71 = .ok (.goto (-38), 3) := by decide +kernel
theorem dX9_settle_74 : decode cX9_settle 74 = .ok (.iconst 0, 1) := by decide +kernel
theorem dX9_settle_75 : decode cX9_settle 75 = .ok (.istore 5, 2) := by decide +kernel
theorem dX9_settle_77 : decode cX9_settle 77 = .ok (.iload 5, 2) := by decide +kernel
theorem dX9_settle_79 : decode cX9_settle 79 = .ok (.bipush 20, 2) := by decide +kernel
theorem dX9_settle_81 : decode cX9_settle 81 = .ok (.if_icmp .ge 89, 3) := by decide +kernel
theorem dX9_settle_84 : decode cX9_settle 84 = .ok (.iload 5, 2) := by decide +kernel
theorem dX9_settle_86 : decode cX9_settle 86 = .ok (.iconst 1, 1) := by decide +kernel
theorem dX9_settle_87 : decode cX9_settle 87 = .ok (.iadd, 1) := by decide +kernel
theorem dX9_settle_88 : decode cX9_settle 88 = .ok (.istore 6, 2) := by decide +kernel
theorem dX9_settle_90 : decode cX9_settle 90 = .ok (.iload 6, 2) := by decide +kernel
theorem dX9_settle_92 : decode cX9_settle 92 = .ok (.bipush 20, 2) := by decide +kernel
theorem dX9_settle_94 : decode cX9_settle 94 = .ok (.if_icmp .ge 70, 3) := by decide +kernel
theorem dX9_settle_97 : decode cX9_settle 97 = .ok (.aload_n 0, 1) := by decide +kernel
theorem dX9_settle_98 : decode cX9_settle 98 = .ok (.iload 5, 2) := by decide +kernel
theorem dX9_settle_100 : decode cX9_settle 100 = .ok (.invokevirtual 54, 3) := by decide +kernel
theorem dX9_settle_103 : decode cX9_settle 103 = .ok (.ifCond .eq 55, 3) := by decide +kernel
theorem dX9_settle_106 : decode cX9_settle 106 = .ok (.aload_n 0, 1) := by decide +kernel
theorem dX9_settle_107 : decode cX9_settle 107 = .ok (.getfield 9, 3) := by decide +kernel
theorem dX9_settle_110 : decode cX9_settle 110 = .ok (.iload 5, 2) := by decide +kernel
theorem dX9_settle_112 : decode cX9_settle 112 = .ok (.iaload, 1) := by decide +kernel
theorem dX9_settle_113 : decode cX9_settle 113 = .ok (.aload_n 0, 1) := by decide +kernel
theorem dX9_settle_114 : decode cX9_settle 114 = .ok (.getfield 9, 3) := by decide +kernel
theorem dX9_settle_117 : decode cX9_settle 117 = .ok (.iload 6, 2) := by decide +kernel
theorem dX9_settle_119 : decode cX9_settle 119 = .ok (.iaload, 1) := by decide +kernel
theorem dX9_settle_120 : decode cX9_settle 120 = .ok (.if_icmp .ne 38, 3) := by decide +kernel
theorem dX9_settle_123 : decode cX9_settle 123 = .ok (.aload_n 0, 1) := by decide +kernel
theorem dX9_settle_124 : decode cX9_settle 124 = .ok (.getfield 15, 3) := by decide +kernel
theorem dX9_settle_127 : decode cX9_settle 127 = .ok (.iload 5, 2) := by decide +kernel
theorem dX9_settle_129 : decode cX9_settle 129 = .ok (.iaload, 1) := by decide +kernel
theorem dX9_settle_130 : decode cX9_settle 130 = .ok (.aload_n 0, 1) := by decide +kernel
theorem dX9_settle_131 : decode cX9_settle 131 = .ok (.getfield 15, 3) := by decide +kernel
theorem dX9_settle_134 : decode cX9_settle 134 = .ok (.iload 6, 2) := by decide +kernel
theorem dX9_settle_136 : decode cX9_settle 136 = .ok (.iaload, 1) := by decide +kernel
theorem dX9_settle_137 : decode cX9_settle 137 = .ok (.if_icmp .ne 21, 3) := by decide +kernel
theorem dX9_settle_140 : decode cX9_settle 140 = .ok (.aload_n 0, 1) := by decide +kernel
theorem dX9_settle_141 : decode cX9_settle 141 = .ok (.dup, 1) := by decide +kernel
theorem dX9_settle_142 : decode cX9_settle 142 = .ok (.getfield 34, 3) := by decide +kernel
theorem dX9_settle_145 : decode cX9_settle 145 = .ok (.iconst 1, 1) := by decide +kernel
theorem dX9_settle_146 : decode cX9_settle 146 = .ok (.iload 5, 2) := by decide +kernel
theorem dX9_settle_148 : decode cX9_settle 148 = .ok (.ishl, 1) := by decide +kernel
theorem dX9_settle_149 : decode cX9_settle 149 = .ok (.iconst 1, 1) := by decide +kernel
theorem dX9_settle_150 : decode cX9_settle 150 = .ok (.iload 6, 2) := by decide +kernel
theorem dX9_settle_152 : decode cX9_settle 152 = .ok (.ishl, 1) := by decide +kernel
theorem dX9_settle_153 : decode cX9_settle 153 = .ok (.ior, 1) := by decide +kernel
theorem dX9_settle_154 : decode cX9_settle 154 = .ok (.ior, 1) := by decide +kernel
theorem dX9_settle_155 : decode cX9_settle 155 = .ok (.putfield 34, 3) := by decide +kernel
theorem dX9_settle_158 : decode cX9_settle 158 = .ok (.iinc 6 1, 3) := by decide +kernel
theorem dX9_settle_161 : decode cX9_settle 161 = .ok (.goto (-71), 3) := by decide +kernel
theorem dX9_settle_164 : decode cX9_settle 164 = .ok (.iinc 5 1, 3) := by decide +kernel
theorem dX9_settle_167 : decode cX9_settle 167 = .ok (.goto (-90), 3) := by decide +kernel
theorem dX9_settle_170 : decode cX9_settle 170 = .ok (.return_, 1) := by decide +kernel
noncomputable def f_X9_settle_L33 (s : (ZMem × Int32)) : Option ((ZMem × Int32) ⊕ (ZMem)) := if (zI 20) ≤ s.2 then some (.inr s.1) else zbind (f_X0_isSign s.1 s.2) (fun r_43 => if r_43 = (zI 0) then zbnd (s.2 + (zI 1)) (fun x5_68 => some (.inl (s.1, x5_68))) else zbind (f_X5_labelOf 41 s.1 s.2) (fun r_55 => zbind (f_X5_labelOf 45 s.1 s.2) (fun r_62 => zbind (f_X9_spread s.1 s.2 r_55 r_62) (fun M_65 => zbnd (s.2 + (zI 1)) (fun x5_68 => some (.inl (M_65, x5_68)))))))
set_option maxRecDepth 100000 in
set_option maxHeartbeats 4000000 in
theorem w_X9_settle_L33 {E : ZEv} {G : ZG} {K : ZMem → Prop} (h : zRu lyC E G (zRv K) cX9_settle RX9 7 none 3) (s : (ZMem × Int32)) (hk : zOk (zloop (f_X9_settle_L33) s) (fun e => G e 74 [(0, zrf E 49)] [])) : G s.1 33 [(0, zrf E 49), (1, zrf E 3), (3, zrf E 41), (4, zrf E 45), (5, .int s.2)] [] := by
  refine zloop_walk (P := fun s => G s.1 33 [(0, zrf E 49), (1, zrf E 3), (3, zrf E 41), (4, zrf E 45), (5, .int s.2)] []) hk (fun s hk => ?_)
  unfold f_X9_settle_L33 at hk
  refine zr_iload h dX9_settle_33 4 rfl ?_
  refine zr_bipush (v := (zI 20)) h dX9_settle_35 (by decide) ?_
  refine zr_icmp_ge (tgt := 74) h dX9_settle_37 (by decide) (fun c => ?_) (fun c => ?_)
  · have hk := zOk_t c hk
    have hk := zOk_some hk
    exact zr_weak h [0] rfl hk
  · have hk := zOk_f c hk
    refine zr_aload_n h dX9_settle_40 1 rfl rfl ?_
    refine zr_iload h dX9_settle_41 4 rfl ?_
    refine zr_callVp h lC_3 zcw_X9_38 (by decide) (c_X0_isSign E s.1 s.2 _ (zOk_bind hk)) rfl rfl (Nat.le_of_ble_eq_true rfl) dX9_settle_43 (fun r_43 hk => ?_)
    refine zr_if_eq (tgt := 68) h dX9_settle_46 (by decide) (fun c => ?_) (fun c => ?_)
    · have hk := zOk_t c hk
      obtain ⟨x5_68, ex⟩ : ∃ y : Int32, y = s.2 + (zI 1) := ⟨_, rfl⟩
      have hk := zOk_bnd ex hk
      refine zr_iinc (v := x5_68) (L' := [(0, zrf E 49), (1, zrf E 3), (3, zrf E 41), (4, zrf E 45), (5, .int x5_68)]) h 4 [1, 2, 3, 4, 0] dX9_settle_68 rfl (by rw [ex]; rfl) (by decide) rfl ?_
      refine zr_goto (tgt := 33) h dX9_settle_71 (by decide) ?_
      have hk := zOk_some hk
      exact zr_weak h [0, 1, 2, 3, 4] rfl hk
    · have hk := zOk_f c hk
      refine zr_aload_n h dX9_settle_49 0 rfl rfl ?_
      refine zr_iload h dX9_settle_50 4 rfl ?_
      refine zr_aload_n h dX9_settle_52 2 rfl rfl ?_
      refine zr_iload h dX9_settle_53 4 rfl ?_
      refine zr_callVp h lC_41 zcw_X9_44 (by decide) (c_X5_labelOf E 41 lC_41 lC_42 lC_43 lC_44 s.1 s.2 _ (zOk_bind hk)) rfl rfl (Nat.le_of_ble_eq_true rfl) dX9_settle_55 (fun r_55 hk => ?_)
      refine zr_aload h dX9_settle_58 3 rfl ?_
      refine zr_iload h dX9_settle_60 4 rfl ?_
      refine zr_callVp h lC_45 zcw_X9_44 (by decide) (c_X5_labelOf E 45 lC_45 lC_46 lC_47 lC_48 s.1 s.2 _ (zOk_bind hk)) rfl rfl (Nat.le_of_ble_eq_true rfl) dX9_settle_62 (fun r_62 hk => ?_)
      refine zr_callVv h lC_49 zcw_X9_50 (by decide) (c_X9_spread E s.1 s.2 r_55 r_62 _ (zOk_bind hk)) rfl rfl (Nat.le_of_ble_eq_true rfl) dX9_settle_65 (fun M_65 hk => ?_)
      obtain ⟨x5_68, ex⟩ : ∃ y : Int32, y = s.2 + (zI 1) := ⟨_, rfl⟩
      have hk := zOk_bnd ex hk
      refine zr_iinc (v := x5_68) (L' := [(0, zrf E 49), (1, zrf E 3), (3, zrf E 41), (4, zrf E 45), (5, .int x5_68)]) h 4 [1, 2, 3, 4, 0] dX9_settle_68 rfl (by rw [ex]; rfl) (by decide) rfl ?_
      refine zr_goto (tgt := 33) h dX9_settle_71 (by decide) ?_
      have hk := zOk_some hk
      exact zr_weak h [0, 1, 2, 3, 4] rfl hk
noncomputable def f_X9_settle_L90 (x5 : Int32) (s : (ZMem × Int32)) : Option ((ZMem × Int32) ⊕ (ZMem)) := if (zI 20) ≤ s.2 then some (.inr s.1) else zbind (f_X9_bothKnown s.1 x5) (fun r_100 => if r_100 = (zI 0) then zbnd (s.2 + (zI 1)) (fun x6_158 => some (.inl (s.1, x6_158))) else zchk (zin x5 20) (zchk (zin s.2 20) (if (s.1.1 50 (zix x5)) = (s.1.1 50 (zix s.2)) then zchk (zin x5 20) (zchk (zin s.2 20) (if (s.1.1 51 (zix x5)) = (s.1.1 51 (zix s.2)) then zbnd (zstI s.1 49 6 ((s.1.1 49 6) ||| (((zI 1) <<< (x5 &&& 31)) ||| ((zI 1) <<< (s.2 &&& 31))))) (fun M_155 => zbnd (s.2 + (zI 1)) (fun x6_158 => some (.inl (M_155, x6_158)))) else zbnd (s.2 + (zI 1)) (fun x6_158 => some (.inl (s.1, x6_158))))) else zbnd (s.2 + (zI 1)) (fun x6_158 => some (.inl (s.1, x6_158))))))
set_option maxRecDepth 100000 in
set_option maxHeartbeats 4000000 in
theorem w_X9_settle_L90 {E : ZEv} {G : ZG} {K : ZMem → Prop} (h : zRu lyC E G (zRv K) cX9_settle RX9 7 none 3) (x5 : Int32) (s : (ZMem × Int32)) (hk : zOk (zloop (f_X9_settle_L90 x5) s) (fun e => G e 164 [(0, zrf E 49), (5, .int x5)] [])) : G s.1 90 [(0, zrf E 49), (5, .int x5), (6, .int s.2)] [] := by
  refine zloop_walk (P := fun s => G s.1 90 [(0, zrf E 49), (5, .int x5), (6, .int s.2)] []) hk (fun s hk => ?_)
  unfold f_X9_settle_L90 at hk
  refine zr_iload h dX9_settle_90 2 rfl ?_
  refine zr_bipush (v := (zI 20)) h dX9_settle_92 (by decide) ?_
  refine zr_icmp_ge (tgt := 164) h dX9_settle_94 (by decide) (fun c => ?_) (fun c => ?_)
  · have hk := zOk_t c hk
    have hk := zOk_some hk
    exact zr_weak h [0, 1] rfl hk
  · have hk := zOk_f c hk
    refine zr_aload_n h dX9_settle_97 0 rfl rfl ?_
    refine zr_iload h dX9_settle_98 1 rfl ?_
    refine zr_callVp h lC_49 zcw_X9_54 (by decide) (c_X9_bothKnown E s.1 x5 _ (zOk_bind hk)) rfl rfl (Nat.le_of_ble_eq_true rfl) dX9_settle_100 (fun r_100 hk => ?_)
    refine zr_if_eq (tgt := 158) h dX9_settle_103 (by decide) (fun c => ?_) (fun c => ?_)
    · have hk := zOk_t c hk
      obtain ⟨x6_158, ex⟩ : ∃ y : Int32, y = s.2 + (zI 1) := ⟨_, rfl⟩
      have hk := zOk_bnd ex hk
      refine zr_iinc (v := x6_158) (L' := [(0, zrf E 49), (5, .int x5), (6, .int x6_158)]) h 2 [1, 2, 0] dX9_settle_158 rfl (by rw [ex]; rfl) (by decide) rfl ?_
      refine zr_goto (tgt := 90) h dX9_settle_161 (by decide) ?_
      have hk := zOk_some hk
      exact zr_weak h [0, 1, 2] rfl hk
    · have hk := zOk_f c hk
      refine zr_aload_n h dX9_settle_106 0 rfl rfl ?_
      refine zr_getR h zfo_X9_9 lC_49 rfl dX9_settle_107 ?_
      refine zr_iload h dX9_settle_110 1 rfl ?_
      have hb := zOk_chk hk
      have hk := hb.2
      refine zr_iald h lC_50 hb.1 dX9_settle_112 ?_
      refine zr_aload_n h dX9_settle_113 0 rfl rfl ?_
      refine zr_getR h zfo_X9_9 lC_49 rfl dX9_settle_114 ?_
      refine zr_iload h dX9_settle_117 2 rfl ?_
      have hb := zOk_chk hk
      have hk := hb.2
      refine zr_iald h lC_50 hb.1 dX9_settle_119 ?_
      refine zr_icmp_ne (tgt := 158) h dX9_settle_120 (by decide) (fun c => ?_) (fun c => ?_)
      · have hk := zOk_t c hk
        refine zr_aload_n h dX9_settle_123 0 rfl rfl ?_
        refine zr_getR h zfo_X9_15 lC_49 rfl dX9_settle_124 ?_
        refine zr_iload h dX9_settle_127 1 rfl ?_
        have hb := zOk_chk hk
        have hk := hb.2
        refine zr_iald h lC_51 hb.1 dX9_settle_129 ?_
        refine zr_aload_n h dX9_settle_130 0 rfl rfl ?_
        refine zr_getR h zfo_X9_15 lC_49 rfl dX9_settle_131 ?_
        refine zr_iload h dX9_settle_134 2 rfl ?_
        have hb := zOk_chk hk
        have hk := hb.2
        refine zr_iald h lC_51 hb.1 dX9_settle_136 ?_
        refine zr_icmp_ne (tgt := 158) h dX9_settle_137 (by decide) (fun c => ?_) (fun c => ?_)
        · have hk := zOk_t c hk
          refine zr_aload_n h dX9_settle_140 0 rfl rfl ?_
          refine zr_dup h dX9_settle_141 rfl ?_
          refine zr_getI h zfo_X9_34 lC_49 rfl dX9_settle_142 ?_
          refine zr_iconst (v := (zI 1)) h dX9_settle_145 rfl ?_
          refine zr_iload h dX9_settle_146 1 rfl ?_
          refine zr_ishl h dX9_settle_148 ?_
          refine zr_iconst (v := (zI 1)) h dX9_settle_149 rfl ?_
          refine zr_iload h dX9_settle_150 2 rfl ?_
          refine zr_ishl h dX9_settle_152 ?_
          refine zr_ior h dX9_settle_153 ?_
          refine zr_ior h dX9_settle_154 ?_
          refine zr_putI h zfp_X9_34 lC_49 rfl dX9_settle_155 ?_
          refine zr_mem (fun M_155 eM => ?_)
          have hk := zOk_bnd eM hk
          obtain ⟨x6_158, ex⟩ : ∃ y : Int32, y = s.2 + (zI 1) := ⟨_, rfl⟩
          have hk := zOk_bnd ex hk
          refine zr_iinc (v := x6_158) (L' := [(0, zrf E 49), (5, .int x5), (6, .int x6_158)]) h 2 [1, 2, 0] dX9_settle_158 rfl (by rw [ex]; rfl) (by decide) rfl ?_
          refine zr_goto (tgt := 90) h dX9_settle_161 (by decide) ?_
          have hk := zOk_some hk
          exact zr_weak h [0, 1, 2] rfl hk
        · have hk := zOk_f c hk
          obtain ⟨x6_158, ex⟩ : ∃ y : Int32, y = s.2 + (zI 1) := ⟨_, rfl⟩
          have hk := zOk_bnd ex hk
          refine zr_iinc (v := x6_158) (L' := [(0, zrf E 49), (5, .int x5), (6, .int x6_158)]) h 2 [1, 2, 0] dX9_settle_158 rfl (by rw [ex]; rfl) (by decide) rfl ?_
          refine zr_goto (tgt := 90) h dX9_settle_161 (by decide) ?_
          have hk := zOk_some hk
          exact zr_weak h [0, 1, 2] rfl hk
      · have hk := zOk_f c hk
        obtain ⟨x6_158, ex⟩ : ∃ y : Int32, y = s.2 + (zI 1) := ⟨_, rfl⟩
        have hk := zOk_bnd ex hk
        refine zr_iinc (v := x6_158) (L' := [(0, zrf E 49), (5, .int x5), (6, .int x6_158)]) h 2 [1, 2, 0] dX9_settle_158 rfl (by rw [ex]; rfl) (by decide) rfl ?_
        refine zr_goto (tgt := 90) h dX9_settle_161 (by decide) ?_
        have hk := zOk_some hk
        exact zr_weak h [0, 1, 2] rfl hk
noncomputable def f_X9_settle_L77 (s : (ZMem × Int32)) : Option ((ZMem × Int32) ⊕ (ZMem)) := if (zI 20) ≤ s.2 then some (.inr s.1) else zbnd (s.2 + (zI 1)) (fun x6_88 => zbind (zloop (f_X9_settle_L90 s.2) (s.1, x6_88)) (fun e90 => zbnd (s.2 + (zI 1)) (fun x5_164 => some (.inl (e90, x5_164)))))
set_option maxRecDepth 100000 in
set_option maxHeartbeats 4000000 in
theorem w_X9_settle_L77 {E : ZEv} {G : ZG} {K : ZMem → Prop} (h : zRu lyC E G (zRv K) cX9_settle RX9 7 none 3) (s : (ZMem × Int32)) (hk : zOk (zloop (f_X9_settle_L77) s) (fun e => G e 170 [] [])) : G s.1 77 [(0, zrf E 49), (5, .int s.2)] [] := by
  refine zloop_walk (P := fun s => G s.1 77 [(0, zrf E 49), (5, .int s.2)] []) hk (fun s hk => ?_)
  unfold f_X9_settle_L77 at hk
  refine zr_iload h dX9_settle_77 1 rfl ?_
  refine zr_bipush (v := (zI 20)) h dX9_settle_79 (by decide) ?_
  refine zr_icmp_ge (tgt := 170) h dX9_settle_81 (by decide) (fun c => ?_) (fun c => ?_)
  · have hk := zOk_t c hk
    have hk := zOk_some hk
    exact zr_weak h [] rfl hk
  · have hk := zOk_f c hk
    refine zr_iload h dX9_settle_84 1 rfl ?_
    refine zr_iconst (v := (zI 1)) h dX9_settle_86 rfl ?_
    refine zr_iadd h dX9_settle_87 ?_
    refine zr_topi (fun x6_88 ex => ?_)
    have hk := zOk_bnd ex hk
    refine zr_istore (L' := [(0, zrf E 49), (5, .int s.2), (6, .int x6_88)]) h [1, 2, 0] dX9_settle_88 (by decide) rfl ?_
    refine w_X9_settle_L90 h s.2 (s.1, x6_88) (zOk_mono (zOk_bind hk) (fun e90 hk => ?_))
    obtain ⟨x5_164, ex⟩ : ∃ y : Int32, y = s.2 + (zI 1) := ⟨_, rfl⟩
    have hk := zOk_bnd ex hk
    refine zr_iinc (v := x5_164) (L' := [(0, zrf E 49), (5, .int x5_164)]) h 1 [1, 0] dX9_settle_164 rfl (by rw [ex]; rfl) (by decide) rfl ?_
    refine zr_goto (tgt := 77) h dX9_settle_167 (by decide) ?_
    have hk := zOk_some hk
    exact zr_weak h [0, 1] rfl hk
noncomputable def f_X9_settle (M : ZMem) : Option ZMem := zbind (f_X9_gatherGuesses M) (fun M_6 => zbind (f_J7_fill_53178 50 20 M_6 (zI (-1))) (fun M_14 => zbind (f_J7_fill_53178 51 20 M_14 (zI (-1))) (fun M_22 => zbnd (zstI M_22 49 6 (zI 0)) (fun M_27 => zbind (zloop (f_X9_settle_L33) (M_27, (zI 0))) (fun e33 => zbind (zloop (f_X9_settle_L77) (e33, (zI 0))) (fun e77 => some e77))))))
set_option maxRecDepth 100000 in
set_option maxHeartbeats 4000000 in
theorem c_X9_settle (E : ZEv) (M : ZMem) (K : ZMem → Prop) (hk : zOk (f_X9_settle M) K) : zCon lyC E yX9_settle cX9_settle 7 none 3 [zrf E 49, zrf E 3, zrf E 20, zrf E 41, zrf E 45] M (zRv K) := by
  refine zcon_of (L0 := [(0, zrf E 49), (1, zrf E 3), (2, zrf E 20), (3, zrf E 41), (4, zrf E 45)]) (by decide) rfl (Nat.le_of_ble_eq_true rfl) (fun G h => ?_)
  have h : zRu lyC E G (zRv K) cX9_settle RX9 7 none 3 := h
  unfold f_X9_settle at hk
  refine zr_aload_n h dX9_settle_0 0 rfl rfl ?_
  refine zr_aload_n h dX9_settle_1 1 rfl rfl ?_
  refine zr_aload_n h dX9_settle_2 2 rfl rfl ?_
  refine zr_aload_n h dX9_settle_3 3 rfl rfl ?_
  refine zr_aload h dX9_settle_4 4 rfl ?_
  refine zr_callVv h lC_49 zcw_X9_24 (by decide) (c_X9_gatherGuesses E M _ (zOk_bind hk)) rfl rfl (Nat.le_of_ble_eq_true rfl) dX9_settle_6 (fun M_6 hk => ?_)
  refine zr_aload_n h dX9_settle_9 0 rfl rfl ?_
  refine zr_getR h zfo_X9_9 lC_49 rfl dX9_settle_10 ?_
  refine zr_iconst (v := (zI (-1))) h dX9_settle_13 rfl ?_
  refine zr_callSv h zcw_X9_28 (by decide) (c_J7_fill_53178 E 50 20 lC_50 M_6 (zI (-1)) _ (zOk_bind hk)) rfl rfl (Nat.le_of_ble_eq_true rfl) dX9_settle_14 (fun M_14 hk => ?_)
  refine zr_aload_n h dX9_settle_17 0 rfl rfl ?_
  refine zr_getR h zfo_X9_15 lC_49 rfl dX9_settle_18 ?_
  refine zr_iconst (v := (zI (-1))) h dX9_settle_21 rfl ?_
  refine zr_callSv h zcw_X9_28 (by decide) (c_J7_fill_53178 E 51 20 lC_51 M_14 (zI (-1)) _ (zOk_bind hk)) rfl rfl (Nat.le_of_ble_eq_true rfl) dX9_settle_22 (fun M_22 hk => ?_)
  refine zr_aload_n h dX9_settle_25 0 rfl rfl ?_
  refine zr_iconst (v := (zI 0)) h dX9_settle_26 rfl ?_
  refine zr_putI h zfp_X9_34 lC_49 rfl dX9_settle_27 ?_
  refine zr_mem (fun M_27 eM => ?_)
  have hk := zOk_bnd eM hk
  refine zr_iconst (v := (zI 0)) h dX9_settle_30 rfl ?_
  refine zr_istore (L' := [(0, zrf E 49), (1, zrf E 3), (3, zrf E 41), (4, zrf E 45), (5, .int (zI 0))]) h [1, 2, 4, 5, 0] dX9_settle_31 (by decide) rfl ?_
  refine w_X9_settle_L33 h (M_27, (zI 0)) (zOk_mono (zOk_bind hk) (fun e33 hk => ?_))
  refine zr_iconst (v := (zI 0)) h dX9_settle_74 rfl ?_
  refine zr_istore (L' := [(0, zrf E 49), (5, .int (zI 0))]) h [1, 0] dX9_settle_75 (by decide) rfl ?_
  refine w_X9_settle_L77 h (e33, (zI 0)) (zOk_mono (zOk_bind hk) (fun e77 hk => ?_))
  have hk := zOk_some hk
  exact zr_vret h dX9_settle_170 ⟨rfl, hk⟩
theorem dX9_disputedSigns_0 : decode cX9_disputedSigns 0 = .ok (.aload_n 0, 1) := by decide +kernel
theorem dX9_disputedSigns_1 : decode cX9_disputedSigns 1 = .ok (.getfield 34, 3) := by decide +kernel
theorem dX9_disputedSigns_4 : decode cX9_disputedSigns 4 = .ok (.invokestatic 82, 3) := by decide +kernel
theorem dX9_disputedSigns_7 : decode cX9_disputedSigns 7 = .ok (.ireturn, 1) := by decide +kernel
noncomputable def f_X9_disputedSigns (M : ZMem) : Option Int32 := zbind (f_J6_bitCount_0f7a4 M (M.1 49 6)) (fun r_4 => some r_4)
set_option maxRecDepth 100000 in
set_option maxHeartbeats 4000000 in
theorem c_X9_disputedSigns (E : ZEv) (M : ZMem) (K : Int32 → Prop) (hk : zOk (f_X9_disputedSigns M) K) : zCon lyC E yX9_disputedSigns cX9_disputedSigns 1 (some .int) 1 [zrf E 49] M (zRp M K) := by
  refine zcon_of (L0 := [(0, zrf E 49)]) (by decide) rfl (Nat.le_of_ble_eq_true rfl) (fun G h => ?_)
  have h : zRu lyC E G (zRp M K) cX9_disputedSigns RX9 1 (some .int) 1 := h
  unfold f_X9_disputedSigns at hk
  refine zr_aload_n h dX9_disputedSigns_0 0 rfl rfl ?_
  refine zr_getI h zfo_X9_34 lC_49 rfl dX9_disputedSigns_1 ?_
  refine zr_callSp h zcw_X9_82 (by decide) (c_J6_bitCount_0f7a4 E M (M.1 49 6) _ (zOk_bind hk)) rfl rfl (Nat.le_of_ble_eq_true rfl) dX9_disputedSigns_4 (fun r_4 hk => ?_)
  have hk := zOk_some hk
  exact zr_iret h dX9_disputedSigns_7 ⟨rfl, _, rfl, hk⟩
theorem dX9_factOf_0 : decode cX9_factOf 0 = .ok (.iload_n 1, 1) := by decide +kernel
theorem dX9_factOf_1 : decode cX9_factOf 1 = .ok (.invokestatic 79, 3) := by decide +kernel
theorem dX9_factOf_4 : decode cX9_factOf 4 = .ok (.ifCond .ne 5, 3) := by decide +kernel
theorem dX9_factOf_7 : decode cX9_factOf 7 = .ok (.iconst (-1), 1) := by decide +kernel
theorem dX9_factOf_8 : decode cX9_factOf 8 = .ok (.ireturn, 1) := by decide +kernel
theorem dX9_factOf_9 : decode cX9_factOf 9 = .ok (.iload_n 2, 1) := by decide +kernel
theorem dX9_factOf_10 : decode cX9_factOf 10 = .ok (.tableswitch 49 0 2 #[26, 33, 40], 26) := by decide +kernel
theorem dX9_factOf_36 : decode cX9_factOf 36 = .ok (.aload_n 0, 1) := by decide +kernel
theorem dX9_factOf_37 : decode cX9_factOf 37 = .ok (.getfield 9, 3) := by decide +kernel
theorem dX9_factOf_40 : decode cX9_factOf 40 = .ok (.iload_n 1, 1) := by decide +kernel
theorem dX9_factOf_41 : decode cX9_factOf 41 = .ok (.iaload, 1) := by decide +kernel
theorem dX9_factOf_42 : decode cX9_factOf 42 = .ok (.ireturn, 1) := by decide +kernel
theorem dX9_factOf_43 : decode cX9_factOf 43 = .ok (.aload_n 0, 1) := by decide +kernel
theorem dX9_factOf_44 : decode cX9_factOf 44 = .ok (.getfield 15, 3) := by decide +kernel
theorem dX9_factOf_47 : decode cX9_factOf 47 = .ok (.iload_n 1, 1) := by decide +kernel
theorem dX9_factOf_48 : decode cX9_factOf 48 = .ok (.iaload, 1) := by decide +kernel
theorem dX9_factOf_49 : decode cX9_factOf 49 = .ok (.ireturn, 1) := by decide +kernel
theorem dX9_factOf_50 : decode cX9_factOf 50 = .ok (.aload_n 0, 1) := by decide +kernel
theorem dX9_factOf_51 : decode cX9_factOf 51 = .ok (.getfield 34, 3) := by decide +kernel
theorem dX9_factOf_54 : decode cX9_factOf 54 = .ok (.iload_n 1, 1) := by decide +kernel
theorem dX9_factOf_55 : decode cX9_factOf 55 = .ok (.iushr, 1) := by decide +kernel
theorem dX9_factOf_56 : decode cX9_factOf 56 = .ok (.iconst 1, 1) := by decide +kernel
theorem dX9_factOf_57 : decode cX9_factOf 57 = .ok (.iand, 1) := by decide +kernel
theorem dX9_factOf_58 : decode cX9_factOf 58 = .ok (.ireturn, 1) := by decide +kernel
theorem dX9_factOf_59 : decode cX9_factOf 59 = .ok (.iconst (-1), 1) := by decide +kernel
theorem dX9_factOf_60 : decode cX9_factOf 60 = .ok (.ireturn, 1) := by decide +kernel
noncomputable def f_X9_factOf (M : ZMem) (x1 : Int32) (x2 : Int32) : Option Int32 := zbind (f_X9_isPlace M x1) (fun r_1 => if r_1 = (zI 0) then some (zI (-1)) else if x2 = (zI 0) then zchk (zin x1 20) (some (M.1 50 (zix x1))) else (if x2 = (zI 1) then zchk (zin x1 20) (some (M.1 51 (zix x1))) else (if x2 = (zI 2) then some ((zushr (M.1 49 6) x1) &&& (zI 1)) else (some (zI (-1))))))
set_option maxRecDepth 100000 in
set_option maxHeartbeats 4000000 in
theorem c_X9_factOf (E : ZEv) (M : ZMem) (x1 : Int32) (x2 : Int32) (K : Int32 → Prop) (hk : zOk (f_X9_factOf M x1 x2) K) : zCon lyC E yX9_factOf cX9_factOf 3 (some .int) 1 [zrf E 49, .int x1, .int x2] M (zRp M K) := by
  refine zcon_of (L0 := [(0, zrf E 49), (1, .int x1), (2, .int x2)]) (by decide) rfl (Nat.le_of_ble_eq_true rfl) (fun G h => ?_)
  have h : zRu lyC E G (zRp M K) cX9_factOf RX9 3 (some .int) 1 := h
  unfold f_X9_factOf at hk
  refine zr_iload_n h dX9_factOf_0 1 rfl rfl ?_
  refine zr_callSp h zcw_X9_79 (by decide) (c_X9_isPlace E M x1 _ (zOk_bind hk)) rfl rfl (Nat.le_of_ble_eq_true rfl) dX9_factOf_1 (fun r_1 hk => ?_)
  refine zr_if_ne (tgt := 9) h dX9_factOf_4 (by decide) (fun c => ?_) (fun c => ?_)
  · have hk := zOk_t c hk
    refine zr_iconst (v := (zI (-1))) h dX9_factOf_7 rfl ?_
    have hk := zOk_some hk
    exact zr_iret h dX9_factOf_8 ⟨rfl, _, rfl, hk⟩
  · have hk := zOk_f c hk
    refine zr_iload_n h dX9_factOf_9 2 rfl rfl ?_
    by_cases c0 : x2 = (zI 0)
    · have hk := zOk_t c0 hk
      refine zr_tabIn (tgt := 36) (off := 26) h dX9_factOf_10 (by rw [c0]; decide) (by rw [c0]; decide) (by rw [c0]; decide) (by decide) ?_
      refine zr_aload_n h dX9_factOf_36 0 rfl rfl ?_
      refine zr_getR h zfo_X9_9 lC_49 rfl dX9_factOf_37 ?_
      refine zr_iload_n h dX9_factOf_40 1 rfl rfl ?_
      have hb := zOk_chk hk
      have hk := hb.2
      refine zr_iald h lC_50 hb.1 dX9_factOf_41 ?_
      have hk := zOk_some hk
      exact zr_iret h dX9_factOf_42 ⟨rfl, _, rfl, hk⟩
    have hk := zOk_f c0 hk
    by_cases c1 : x2 = (zI 1)
    · have hk := zOk_t c1 hk
      refine zr_tabIn (tgt := 43) (off := 33) h dX9_factOf_10 (by rw [c1]; decide) (by rw [c1]; decide) (by rw [c1]; decide) (by decide) ?_
      refine zr_aload_n h dX9_factOf_43 0 rfl rfl ?_
      refine zr_getR h zfo_X9_15 lC_49 rfl dX9_factOf_44 ?_
      refine zr_iload_n h dX9_factOf_47 1 rfl rfl ?_
      have hb := zOk_chk hk
      have hk := hb.2
      refine zr_iald h lC_51 hb.1 dX9_factOf_48 ?_
      have hk := zOk_some hk
      exact zr_iret h dX9_factOf_49 ⟨rfl, _, rfl, hk⟩
    have hk := zOk_f c1 hk
    by_cases c2 : x2 = (zI 2)
    · have hk := zOk_t c2 hk
      refine zr_tabIn (tgt := 50) (off := 40) h dX9_factOf_10 (by rw [c2]; decide) (by rw [c2]; decide) (by rw [c2]; decide) (by decide) ?_
      refine zr_aload_n h dX9_factOf_50 0 rfl rfl ?_
      refine zr_getI h zfo_X9_34 lC_49 rfl dX9_factOf_51 ?_
      refine zr_iload_n h dX9_factOf_54 1 rfl rfl ?_
      refine zr_iushr h dX9_factOf_55 ?_
      refine zr_iconst (v := (zI 1)) h dX9_factOf_56 rfl ?_
      refine zr_iand h dX9_factOf_57 ?_
      have hk := zOk_some hk
      exact zr_iret h dX9_factOf_58 ⟨rfl, _, rfl, hk⟩
    have hk := zOk_f c2 hk
    have hz : (x2).toInt ≠ 0 ∧ (x2).toInt ≠ 1 ∧ (x2).toInt ≠ 2 := ⟨zInt_ne c0, zInt_ne c1, zInt_ne c2⟩
    refine zr_tabOut (tgt := 59) h dX9_factOf_10 (by omega) (by decide) ?_
    refine zr_iconst (v := (zI (-1))) h dX9_factOf_59 rfl ?_
    have hk := zOk_some hk
    exact zr_iret h dX9_factOf_60 ⟨rfl, _, rfl, hk⟩
theorem dX10_sameConsonant_0 : decode cX10_sameConsonant 0 = .ok (.iload_n 0, 1) := by decide +kernel
theorem dX10_sameConsonant_1 : decode cX10_sameConsonant 1 = .ok (.iconst 5, 1) := by decide +kernel
theorem dX10_sameConsonant_2 : decode cX10_sameConsonant 2 = .ok (.idiv, 1) := by decide +kernel
theorem dX10_sameConsonant_3 : decode cX10_sameConsonant 3 = .ok (.iload_n 1, 1) := by decide +kernel
theorem dX10_sameConsonant_4 : decode cX10_sameConsonant 4 = .ok (.iconst 5, 1) := by decide +kernel
theorem dX10_sameConsonant_5 : decode cX10_sameConsonant 5 = .ok (.idiv, 1) := by decide +kernel
theorem dX10_sameConsonant_6 : decode cX10_sameConsonant 6 = .ok (.if_icmp .ne 7, 3) := by decide +kernel
theorem dX10_sameConsonant_9 : decode cX10_sameConsonant 9 = .ok (.iconst 1, 1) := by decide +kernel
theorem dX10_sameConsonant_10 : decode cX10_sameConsonant 10 = .ok (.goto 4, 3) := by decide +kernel
theorem dX10_sameConsonant_13 : decode cX10_sameConsonant 13 = .ok (.iconst 0, 1) := by decide +kernel
theorem dX10_sameConsonant_14 : decode cX10_sameConsonant 14 = .ok (.ireturn, 1) := by decide +kernel
noncomputable def f_X10_sameConsonant (M : ZMem) (x0 : Int32) (x1 : Int32) : Option Int32 := if (x0 / (zI 5)) = (x1 / (zI 5)) then some (zI 1) else some (zI 0)
set_option maxRecDepth 100000 in
set_option maxHeartbeats 4000000 in
theorem c_X10_sameConsonant {ly : List ZEnt} (E : ZEv) (M : ZMem) (x0 : Int32) (x1 : Int32) (K : Int32 → Prop) (hk : zOk (f_X10_sameConsonant M x0 x1) K) : zCon ly E yX10_sameConsonant cX10_sameConsonant 2 (some .boolean) 0 [.int x0, .int x1] M (zRp M K) := by
  refine zcon_of (L0 := [(0, .int x0), (1, .int x1)]) (by decide) rfl (Nat.le_of_ble_eq_true rfl) (fun G h => ?_)
  have h : zRu ly E G (zRp M K) cX10_sameConsonant RX10 2 (some .boolean) 0 := h
  unfold f_X10_sameConsonant at hk
  refine zr_iload_n h dX10_sameConsonant_0 0 rfl rfl ?_
  refine zr_iconst (v := (zI 5)) h dX10_sameConsonant_1 rfl ?_
  refine zr_idiv h dX10_sameConsonant_2 (by decide) ?_
  refine zr_iload_n h dX10_sameConsonant_3 1 rfl rfl ?_
  refine zr_iconst (v := (zI 5)) h dX10_sameConsonant_4 rfl ?_
  refine zr_idiv h dX10_sameConsonant_5 (by decide) ?_
  refine zr_icmp_ne (tgt := 13) h dX10_sameConsonant_6 (by decide) (fun c => ?_) (fun c => ?_)
  · have hk := zOk_t c hk
    refine zr_iconst (v := (zI 1)) h dX10_sameConsonant_9 rfl ?_
    refine zr_goto (tgt := 14) h dX10_sameConsonant_10 (by decide) ?_
    have hk := zOk_some hk
    exact zr_zret h dX10_sameConsonant_14 (by decide) ⟨rfl, _, rfl, hk⟩
  · have hk := zOk_f c hk
    refine zr_iconst (v := (zI 0)) h dX10_sameConsonant_13 rfl ?_
    have hk := zOk_some hk
    exact zr_zret h dX10_sameConsonant_14 (by decide) ⟨rfl, _, rfl, hk⟩
theorem dX10_sameVowel_0 : decode cX10_sameVowel 0 = .ok (.iload_n 0, 1) := by decide +kernel
theorem dX10_sameVowel_1 : decode cX10_sameVowel 1 = .ok (.iconst 5, 1) := by decide +kernel
theorem dX10_sameVowel_2 : decode cX10_sameVowel 2 = .ok (.irem, 1) := by decide +kernel
theorem dX10_sameVowel_3 : decode cX10_sameVowel 3 = .ok (.iload_n 1, 1) := by decide +kernel
theorem dX10_sameVowel_4 : decode cX10_sameVowel 4 = .ok (.iconst 5, 1) := by decide +kernel
theorem dX10_sameVowel_5 : decode cX10_sameVowel 5 = .ok (.irem, 1) := by decide +kernel
theorem dX10_sameVowel_6 : decode cX10_sameVowel 6 = .ok (.if_icmp .ne 7, 3) := by decide +kernel
theorem dX10_sameVowel_9 : decode cX10_sameVowel 9 = .ok (.iconst 1, 1) := by decide +kernel
theorem dX10_sameVowel_10 : decode cX10_sameVowel 10 = .ok (.goto 4, 3) := by decide +kernel
theorem dX10_sameVowel_13 : decode cX10_sameVowel 13 = .ok (.iconst 0, 1) := by decide +kernel
theorem dX10_sameVowel_14 : decode cX10_sameVowel 14 = .ok (.ireturn, 1) := by decide +kernel
noncomputable def f_X10_sameVowel (M : ZMem) (x0 : Int32) (x1 : Int32) : Option Int32 := if (x0 - x0 / (zI 5) * (zI 5)) = (x1 - x1 / (zI 5) * (zI 5)) then some (zI 1) else some (zI 0)
set_option maxRecDepth 100000 in
set_option maxHeartbeats 4000000 in
theorem c_X10_sameVowel {ly : List ZEnt} (E : ZEv) (M : ZMem) (x0 : Int32) (x1 : Int32) (K : Int32 → Prop) (hk : zOk (f_X10_sameVowel M x0 x1) K) : zCon ly E yX10_sameVowel cX10_sameVowel 2 (some .boolean) 0 [.int x0, .int x1] M (zRp M K) := by
  refine zcon_of (L0 := [(0, .int x0), (1, .int x1)]) (by decide) rfl (Nat.le_of_ble_eq_true rfl) (fun G h => ?_)
  have h : zRu ly E G (zRp M K) cX10_sameVowel RX10 2 (some .boolean) 0 := h
  unfold f_X10_sameVowel at hk
  refine zr_iload_n h dX10_sameVowel_0 0 rfl rfl ?_
  refine zr_iconst (v := (zI 5)) h dX10_sameVowel_1 rfl ?_
  refine zr_irem h dX10_sameVowel_2 (by decide) ?_
  refine zr_iload_n h dX10_sameVowel_3 1 rfl rfl ?_
  refine zr_iconst (v := (zI 5)) h dX10_sameVowel_4 rfl ?_
  refine zr_irem h dX10_sameVowel_5 (by decide) ?_
  refine zr_icmp_ne (tgt := 13) h dX10_sameVowel_6 (by decide) (fun c => ?_) (fun c => ?_)
  · have hk := zOk_t c hk
    refine zr_iconst (v := (zI 1)) h dX10_sameVowel_9 rfl ?_
    refine zr_goto (tgt := 14) h dX10_sameVowel_10 (by decide) ?_
    have hk := zOk_some hk
    exact zr_zret h dX10_sameVowel_14 (by decide) ⟨rfl, _, rfl, hk⟩
  · have hk := zOk_f c hk
    refine zr_iconst (v := (zI 0)) h dX10_sameVowel_13 rfl ?_
    have hk := zOk_some hk
    exact zr_zret h dX10_sameVowel_14 (by decide) ⟨rfl, _, rfl, hk⟩
theorem dX10_goTogether_0 : decode cX10_goTogether 0 = .ok (.iconst 0, 1) := by decide +kernel
theorem dX10_goTogether_1 : decode cX10_goTogether 1 = .ok (.istore 5, 2) := by decide +kernel
theorem dX10_goTogether_3 : decode cX10_goTogether 3 = .ok (.iload 5, 2) := by decide +kernel
theorem dX10_goTogether_5 : decode cX10_goTogether 5 = .ok (.aload_n 0, 1) := by decide +kernel
theorem dX10_goTogether_6 : decode cX10_goTogether 6 = .ok (.getfield 33, 3) := by decide +kernel
theorem dX10_goTogether_9 : decode cX10_goTogether 9 = .ok (.iload_n 2, 1) := by decide +kernel
theorem dX10_goTogether_10 : decode cX10_goTogether 10 = .ok (.invokevirtual 99, 3) := by decide +kernel
theorem dX10_goTogether_13 : decode cX10_goTogether 13 = .ok (.if_icmp .ge 158, 3) := by decide +kernel
theorem dX10_goTogether_16 : decode cX10_goTogether 16 = .ok (.aload_n 0, 1) := by decide +kernel
theorem dX10_goTogether_17 : decode cX10_goTogether 17 = .ok (.getfield 33, 3) := by decide +kernel
theorem dX10_goTogether_20 : decode cX10_goTogether 20 = .ok (.iload_n 2, 1) := by decide +kernel
theorem dX10_goTogether_21 : decode cX10_goTogether 21 = .ok (.iload 5, 2) := by decide +kernel
theorem dX10_goTogether_23 : decode cX10_goTogether 23 = .ok (.invokevirtual 103, 3) := by decide +kernel
theorem dX10_goTogether_26 : decode cX10_goTogether 26 = .ok (.istore 6, 2) := by decide +kernel
theorem dX10_goTogether_28 : decode cX10_goTogether 28 = .ok (.aload_n 0, 1) := by decide +kernel
theorem dX10_goTogether_29 : decode cX10_goTogether 29 = .ok (.getfield 29, 3) := by decide +kernel
theorem dX10_goTogether_32 : decode cX10_goTogether 32 = .ok (.iload_n 1, 1) := by decide +kernel
theorem dX10_goTogether_33 : decode cX10_goTogether 33 = .ok (.iload 5, 2) := by decide +kernel
theorem dX10_goTogether_35 : decode cX10_goTogether 35 = .ok (.invokevirtual 106, 3) := by decide +kernel
theorem dX10_goTogether_38 : decode cX10_goTogether 38 = .ok (.istore 7, 2) := by decide +kernel
theorem dX10_goTogether_40 : decode cX10_goTogether 40 = .ok (.iconst 0, 1) := by decide +kernel
theorem dX10_goTogether_41 : decode cX10_goTogether 41 = .ok (.istore 8, 2) := by decide +kernel
theorem dX10_goTogether_43 : decode cX10_goTogether 43 = .ok (.iload 8, 2) := by decide +kernel
theorem dX10_goTogether_45 : decode cX10_goTogether 45 = .ok (.aload_n 0, 1) := by decide +kernel
theorem dX10_goTogether_46 : decode cX10_goTogether 46 = .ok (.getfield 33, 3) := by decide +kernel
theorem dX10_goTogether_49 : decode cX10_goTogether 49 = .ok (.iload 4, 2) := by decide +kernel
theorem dX10_goTogether_51 : decode cX10_goTogether 51 = .ok (.invokevirtual 99, 3) := by decide +kernel
theorem dX10_goTogether_54 : decode cX10_goTogether 54 = .ok (.if_icmp .ge 111, 3) := by decide +kernel
theorem dX10_goTogether_57 : decode cX10_goTogether 57 = .ok (.aload_n 0, 1) := by decide +kernel
theorem dX10_goTogether_58 : decode cX10_goTogether 58 = .ok (.getfield 33, 3) := by decide +kernel
theorem dX10_goTogether_61 : decode cX10_goTogether 61 = .ok (.iload 4, 2) := by decide +kernel
theorem dX10_goTogether_63 : decode cX10_goTogether 63 = .ok (.iload 8, 2) := by decide +kernel
theorem dX10_goTogether_65 : decode cX10_goTogether 65 = .ok (.invokevirtual 103, 3) := by decide +kernel
theorem dX10_goTogether_68 : decode cX10_goTogether 68 = .ok (.istore 9, 2) := by decide +kernel
theorem dX10_goTogether_70 : decode cX10_goTogether 70 = .ok (.aload_n 0, 1) := by decide +kernel
theorem dX10_goTogether_71 : decode cX10_goTogether 71 = .ok (.getfield 29, 3) := by decide +kernel
theorem dX10_goTogether_74 : decode cX10_goTogether 74 = .ok (.iload_n 3, 1) := by decide +kernel
theorem dX10_goTogether_75 : decode cX10_goTogether 75 = .ok (.iload 8, 2) := by decide +kernel
theorem dX10_goTogether_77 : decode cX10_goTogether 77 = .ok (.invokevirtual 106, 3) := by decide +kernel
theorem dX10_goTogether_80 : decode cX10_goTogether 80 = .ok (.istore 10, 2) := by decide +kernel
theorem dX10_goTogether_82 : decode cX10_goTogether 82 = .ok (.iload 6, 2) := by decide +kernel
theorem dX10_goTogether_84 : decode cX10_goTogether 84 = .ok (.iload 9, 2) := by decide +kernel
theorem dX10_goTogether_86 : decode cX10_goTogether 86 = .ok (.if_icmp .ne 7, 3) := by decide +kernel
theorem dX10_goTogether_89 : decode cX10_goTogether 89 = .ok (.iconst 1, 1) := by decide +kernel
theorem dX10_goTogether_90 : decode cX10_goTogether 90 = .ok (.goto 4, 3) := by decide +kernel
theorem dX10_goTogether_93 : decode cX10_goTogether 93 = .ok (.iconst 0, 1) := by decide +kernel
theorem dX10_goTogether_94 : decode cX10_goTogether 94 = .ok (.iload 7, 2) := by decide +kernel
theorem dX10_goTogether_96 : decode cX10_goTogether 96 = .ok (.iload 10, 2) := by decide +kernel
theorem dX10_goTogether_98 : decode cX10_goTogether 98 = .ok (.if_icmp .ne 7, 3) := by decide +kernel
theorem dX10_goTogether_101 : decode cX10_goTogether 101 = .ok (.iconst 1, 1) := by decide +kernel
theorem dX10_goTogether_102 : decode cX10_goTogether 102 = .ok (.goto 4, 3) := by decide +kernel
theorem dX10_goTogether_105 : decode cX10_goTogether 105 = .ok (.iconst 0, 1) := by decide +kernel
theorem dX10_goTogether_106 : decode cX10_goTogether 106 = .ok (.if_icmp .ne 51, 3) := by decide +kernel
theorem dX10_goTogether_109 : decode cX10_goTogether 109 = .ok (.aload_n 0, 1) := by decide +kernel
theorem dX10_goTogether_110 : decode cX10_goTogether 110 = .ok (.getfield 37, 3) := by decide +kernel
theorem dX10_goTogether_113 : decode cX10_goTogether 113 = .ok (.iload 6, 2) := by decide +kernel
theorem dX10_goTogether_115 : decode cX10_goTogether 115 = .ok (.iload 9, 2) := by decide +kernel
theorem dX10_goTogether_117 : decode cX10_goTogether 117 = .ok (.invokevirtual 109, 3) := by decide +kernel
theorem dX10_goTogether_120 : decode cX10_goTogether 120 = .ok (.ifCond .eq 13, 3) := by decide +kernel
theorem dX10_goTogether_123 : decode cX10_goTogether 123 = .ok (.iload 7, 2) := by decide +kernel
theorem dX10_goTogether_125 : decode cX10_goTogether 125 = .ok (.iload 10, 2) := by decide +kernel
theorem dX10_goTogether_127 : decode cX10_goTogether 127 = .ok (.invokestatic 114, 3) := by decide +kernel
theorem dX10_goTogether_130 : decode cX10_goTogether 130 = .ok (.ifCond .eq 27, 3) := by decide +kernel
theorem dX10_goTogether_133 : decode cX10_goTogether 133 = .ok (.aload_n 0, 1) := by decide +kernel
theorem dX10_goTogether_134 : decode cX10_goTogether 134 = .ok (.getfield 41, 3) := by decide +kernel
theorem dX10_goTogether_137 : decode cX10_goTogether 137 = .ok (.iload 6, 2) := by decide +kernel
theorem dX10_goTogether_139 : decode cX10_goTogether 139 = .ok (.iload 9, 2) := by decide +kernel
theorem dX10_goTogether_141 : decode cX10_goTogether 141 = .ok (.invokevirtual 109, 3) := by decide +kernel
theorem dX10_goTogether_144 : decode cX10_goTogether 144 = .ok (.ifCond .eq 15, 3) := by decide +kernel
theorem dX10_goTogether_147 : decode cX10_goTogether 147 = .ok (.iload 7, 2) := by decide +kernel
theorem dX10_goTogether_149 : decode cX10_goTogether 149 = .ok (.iload 10, 2) := by decide +kernel
theorem dX10_goTogether_151 : decode cX10_goTogether 151 = .ok (.invokestatic 117, 3) := by decide +kernel
theorem dX10_goTogether_154 : decode cX10_goTogether 154 = .ok (.ifCond .ne 5, 3) := by decide +kernel
theorem dX10_goTogether_157 : decode cX10_goTogether 157 = .ok (.iconst 0, 1) := by decide +kernel
theorem dX10_goTogether_158 : decode cX10_goTogether 158 = .ok (.ireturn, 1) := by decide +kernel
theorem dX10_goTogether_159 : decode cX10_goTogether 159 = .ok (.iinc 8 1, 3) := by decide +kernel
theorem dX10_goTogether_162 : decode cX10_goTogether 162 = .ok (.goto (-119), 3) := by decide +kernel
theorem dX10_goTogether_165 : decode cX10_goTogether 165 = .ok (.iinc 5 1, 3) := by decide +kernel
theorem dX10_goTogether_168 : decode cX10_goTogether 168 = .ok (.goto (-165), 3) := by decide +kernel
theorem dX10_goTogether_171 : decode cX10_goTogether 171 = .ok (.iconst 1, 1) := by decide +kernel
theorem dX10_goTogether_172 : decode cX10_goTogether 172 = .ok (.ireturn, 1) := by decide +kernel
noncomputable def f_X10_goTogether_133_L43 (M : ZMem) (x1 : Int32) (x2 : Int32) (x3 : Int32) (x4 : Int32) (x5 : Int32) (x6 : Int32) (x7 : Int32) (x8 : Int32) (x9 : Int32) (x10 : Int32) : Option ((Int32) ⊕ ((Unit) ⊕ Int32)) := zbind (f_X5_together 45 M x6 x9) (fun r_141 => if r_141 = (zI 0) then zbnd (x8 + (zI 1)) (fun x8_159 => some (.inl x8_159)) else zbind (f_X10_sameVowel M x7 x10) (fun r_151 => if r_151 = (zI 0) then some (.inr (.inr (zI 0))) else zbnd (x8 + (zI 1)) (fun x8_159 => some (.inl x8_159))))
set_option maxRecDepth 100000 in
set_option maxHeartbeats 4000000 in
theorem w_X10_goTogether_133_L43 {E : ZEv} {G : ZG} {K : Int32 → Prop} (M : ZMem) (h : zRu lyC E G (zRp M K) cX10_goTogether RX10 11 (some .boolean) 2) (x1 : Int32) (x2 : Int32) (x3 : Int32) (x4 : Int32) (x5 : Int32) (x6 : Int32) (x7 : Int32) (x8 : Int32) (x9 : Int32) (x10 : Int32) (hk : zOk (f_X10_goTogether_133_L43 M x1 x2 x3 x4 x5 x6 x7 x8 x9 x10) (zlp (fun s => G M 43 [(0, zrf E 59), (1, .int x1), (2, .int x2), (3, .int x3), (4, .int x4), (5, .int x5), (6, .int x6), (7, .int x7), (8, .int s)] []) (fun e => zsel e (fun e0 => G M 165 [(0, zrf E 59), (1, .int x1), (2, .int x2), (3, .int x3), (4, .int x4), (5, .int x5)] []) (fun f0 => K f0)))) : G M 133 [(0, zrf E 59), (1, .int x1), (2, .int x2), (3, .int x3), (4, .int x4), (5, .int x5), (6, .int x6), (7, .int x7), (8, .int x8), (9, .int x9), (10, .int x10)] [] := by
  unfold f_X10_goTogether_133_L43 at hk
  refine zr_aload_n h dX10_goTogether_133 0 rfl rfl ?_
  refine zr_getR h zfo_X10_41 lC_59 rfl dX10_goTogether_134 ?_
  refine zr_iload h dX10_goTogether_137 6 rfl ?_
  refine zr_iload h dX10_goTogether_139 9 rfl ?_
  refine zr_callVp h lC_45 zcw_X10_109 (by decide) (c_X5_together E 45 lC_45 lC_46 lC_47 lC_48 M x6 x9 _ (zOk_bind hk)) rfl rfl (Nat.le_of_ble_eq_true rfl) dX10_goTogether_141 (fun r_141 hk => ?_)
  refine zr_if_eq (tgt := 159) h dX10_goTogether_144 (by decide) (fun c => ?_) (fun c => ?_)
  · have hk := zOk_t c hk
    obtain ⟨x8_159, ex⟩ : ∃ y : Int32, y = x8 + (zI 1) := ⟨_, rfl⟩
    have hk := zOk_bnd ex hk
    refine zr_iinc (v := x8_159) (L' := [(0, zrf E 59), (1, .int x1), (2, .int x2), (3, .int x3), (4, .int x4), (5, .int x5), (6, .int x6), (7, .int x7), (8, .int x8_159)]) h 8 [1, 2, 3, 4, 5, 6, 7, 8, 0] dX10_goTogether_159 rfl (by rw [ex]; rfl) (by decide) rfl ?_
    refine zr_goto (tgt := 43) h dX10_goTogether_162 (by decide) ?_
    have hk := zOk_some hk
    exact zr_weak h [0, 1, 2, 3, 4, 5, 6, 7, 8] rfl hk
  · have hk := zOk_f c hk
    refine zr_iload h dX10_goTogether_147 7 rfl ?_
    refine zr_iload h dX10_goTogether_149 10 rfl ?_
    refine zr_callSp h zcw_X10_117 (by decide) (c_X10_sameVowel E M x7 x10 _ (zOk_bind hk)) rfl rfl (Nat.le_of_ble_eq_true rfl) dX10_goTogether_151 (fun r_151 hk => ?_)
    refine zr_if_ne (tgt := 159) h dX10_goTogether_154 (by decide) (fun c => ?_) (fun c => ?_)
    · have hk := zOk_t c hk
      refine zr_iconst (v := (zI 0)) h dX10_goTogether_157 rfl ?_
      have hk := zOk_some hk
      exact zr_zret h dX10_goTogether_158 (by decide) ⟨rfl, _, rfl, hk⟩
    · have hk := zOk_f c hk
      obtain ⟨x8_159, ex⟩ : ∃ y : Int32, y = x8 + (zI 1) := ⟨_, rfl⟩
      have hk := zOk_bnd ex hk
      refine zr_iinc (v := x8_159) (L' := [(0, zrf E 59), (1, .int x1), (2, .int x2), (3, .int x3), (4, .int x4), (5, .int x5), (6, .int x6), (7, .int x7), (8, .int x8_159)]) h 8 [1, 2, 3, 4, 5, 6, 7, 8, 0] dX10_goTogether_159 rfl (by rw [ex]; rfl) (by decide) rfl ?_
      refine zr_goto (tgt := 43) h dX10_goTogether_162 (by decide) ?_
      have hk := zOk_some hk
      exact zr_weak h [0, 1, 2, 3, 4, 5, 6, 7, 8] rfl hk
noncomputable def f_X10_goTogether_106_L43 (M : ZMem) (x1 : Int32) (x2 : Int32) (x3 : Int32) (x4 : Int32) (x5 : Int32) (x6 : Int32) (x7 : Int32) (x8 : Int32) (x9 : Int32) (x10 : Int32) (v0 : Int32) (v1 : Int32) : Option ((Int32) ⊕ ((Unit) ⊕ Int32)) := if v0 = v1 then zbind (f_X5_together 41 M x6 x9) (fun r_117 => if r_117 = (zI 0) then f_X10_goTogether_133_L43 M x1 x2 x3 x4 x5 x6 x7 x8 x9 x10 else zbind (f_X10_sameConsonant M x7 x10) (fun r_127 => if r_127 = (zI 0) then some (.inr (.inr (zI 0))) else f_X10_goTogether_133_L43 M x1 x2 x3 x4 x5 x6 x7 x8 x9 x10)) else some (.inr (.inr (zI 0)))
set_option maxRecDepth 100000 in
set_option maxHeartbeats 4000000 in
theorem w_X10_goTogether_106_L43 {E : ZEv} {G : ZG} {K : Int32 → Prop} (M : ZMem) (h : zRu lyC E G (zRp M K) cX10_goTogether RX10 11 (some .boolean) 2) (x1 : Int32) (x2 : Int32) (x3 : Int32) (x4 : Int32) (x5 : Int32) (x6 : Int32) (x7 : Int32) (x8 : Int32) (x9 : Int32) (x10 : Int32) (v0 : Int32) (v1 : Int32) (hk : zOk (f_X10_goTogether_106_L43 M x1 x2 x3 x4 x5 x6 x7 x8 x9 x10 v0 v1) (zlp (fun s => G M 43 [(0, zrf E 59), (1, .int x1), (2, .int x2), (3, .int x3), (4, .int x4), (5, .int x5), (6, .int x6), (7, .int x7), (8, .int s)] []) (fun e => zsel e (fun e0 => G M 165 [(0, zrf E 59), (1, .int x1), (2, .int x2), (3, .int x3), (4, .int x4), (5, .int x5)] []) (fun f0 => K f0)))) : G M 106 [(0, zrf E 59), (1, .int x1), (2, .int x2), (3, .int x3), (4, .int x4), (5, .int x5), (6, .int x6), (7, .int x7), (8, .int x8), (9, .int x9), (10, .int x10)] [.int v1, .int v0] := by
  unfold f_X10_goTogether_106_L43 at hk
  refine zr_icmp_ne (tgt := 157) h dX10_goTogether_106 (by decide) (fun c => ?_) (fun c => ?_)
  · have hk := zOk_t c hk
    refine zr_aload_n h dX10_goTogether_109 0 rfl rfl ?_
    refine zr_getR h zfo_X10_37 lC_59 rfl dX10_goTogether_110 ?_
    refine zr_iload h dX10_goTogether_113 6 rfl ?_
    refine zr_iload h dX10_goTogether_115 9 rfl ?_
    refine zr_callVp h lC_41 zcw_X10_109 (by decide) (c_X5_together E 41 lC_41 lC_42 lC_43 lC_44 M x6 x9 _ (zOk_bind hk)) rfl rfl (Nat.le_of_ble_eq_true rfl) dX10_goTogether_117 (fun r_117 hk => ?_)
    refine zr_if_eq (tgt := 133) h dX10_goTogether_120 (by decide) (fun c => ?_) (fun c => ?_)
    · have hk := zOk_t c hk
      exact w_X10_goTogether_133_L43 M h x1 x2 x3 x4 x5 x6 x7 x8 x9 x10 hk
    · have hk := zOk_f c hk
      refine zr_iload h dX10_goTogether_123 7 rfl ?_
      refine zr_iload h dX10_goTogether_125 10 rfl ?_
      refine zr_callSp h zcw_X10_114 (by decide) (c_X10_sameConsonant E M x7 x10 _ (zOk_bind hk)) rfl rfl (Nat.le_of_ble_eq_true rfl) dX10_goTogether_127 (fun r_127 hk => ?_)
      refine zr_if_eq (tgt := 157) h dX10_goTogether_130 (by decide) (fun c => ?_) (fun c => ?_)
      · have hk := zOk_t c hk
        refine zr_iconst (v := (zI 0)) h dX10_goTogether_157 rfl ?_
        have hk := zOk_some hk
        exact zr_zret h dX10_goTogether_158 (by decide) ⟨rfl, _, rfl, hk⟩
      · have hk := zOk_f c hk
        exact w_X10_goTogether_133_L43 M h x1 x2 x3 x4 x5 x6 x7 x8 x9 x10 hk
  · have hk := zOk_f c hk
    refine zr_iconst (v := (zI 0)) h dX10_goTogether_157 rfl ?_
    have hk := zOk_some hk
    exact zr_zret h dX10_goTogether_158 (by decide) ⟨rfl, _, rfl, hk⟩
noncomputable def f_X10_goTogether_94_L43 (M : ZMem) (x1 : Int32) (x2 : Int32) (x3 : Int32) (x4 : Int32) (x5 : Int32) (x6 : Int32) (x7 : Int32) (x8 : Int32) (x9 : Int32) (x10 : Int32) (v0 : Int32) : Option ((Int32) ⊕ ((Unit) ⊕ Int32)) := if x7 = x10 then f_X10_goTogether_106_L43 M x1 x2 x3 x4 x5 x6 x7 x8 x9 x10 v0 (zI 1) else f_X10_goTogether_106_L43 M x1 x2 x3 x4 x5 x6 x7 x8 x9 x10 v0 (zI 0)
set_option maxRecDepth 100000 in
set_option maxHeartbeats 4000000 in
theorem w_X10_goTogether_94_L43 {E : ZEv} {G : ZG} {K : Int32 → Prop} (M : ZMem) (h : zRu lyC E G (zRp M K) cX10_goTogether RX10 11 (some .boolean) 2) (x1 : Int32) (x2 : Int32) (x3 : Int32) (x4 : Int32) (x5 : Int32) (x6 : Int32) (x7 : Int32) (x8 : Int32) (x9 : Int32) (x10 : Int32) (v0 : Int32) (hk : zOk (f_X10_goTogether_94_L43 M x1 x2 x3 x4 x5 x6 x7 x8 x9 x10 v0) (zlp (fun s => G M 43 [(0, zrf E 59), (1, .int x1), (2, .int x2), (3, .int x3), (4, .int x4), (5, .int x5), (6, .int x6), (7, .int x7), (8, .int s)] []) (fun e => zsel e (fun e0 => G M 165 [(0, zrf E 59), (1, .int x1), (2, .int x2), (3, .int x3), (4, .int x4), (5, .int x5)] []) (fun f0 => K f0)))) : G M 94 [(0, zrf E 59), (1, .int x1), (2, .int x2), (3, .int x3), (4, .int x4), (5, .int x5), (6, .int x6), (7, .int x7), (8, .int x8), (9, .int x9), (10, .int x10)] [.int v0] := by
  unfold f_X10_goTogether_94_L43 at hk
  refine zr_iload h dX10_goTogether_94 7 rfl ?_
  refine zr_iload h dX10_goTogether_96 10 rfl ?_
  refine zr_icmp_ne (tgt := 105) h dX10_goTogether_98 (by decide) (fun c => ?_) (fun c => ?_)
  · have hk := zOk_t c hk
    refine zr_iconst (v := (zI 1)) h dX10_goTogether_101 rfl ?_
    refine zr_goto (tgt := 106) h dX10_goTogether_102 (by decide) ?_
    exact w_X10_goTogether_106_L43 M h x1 x2 x3 x4 x5 x6 x7 x8 x9 x10 v0 (zI 1) hk
  · have hk := zOk_f c hk
    refine zr_iconst (v := (zI 0)) h dX10_goTogether_105 rfl ?_
    exact w_X10_goTogether_106_L43 M h x1 x2 x3 x4 x5 x6 x7 x8 x9 x10 v0 (zI 0) hk
noncomputable def f_X10_goTogether_L43 (M : ZMem) (x1 : Int32) (x2 : Int32) (x3 : Int32) (x4 : Int32) (x5 : Int32) (x6 : Int32) (x7 : Int32) (s : (Int32)) : Option ((Int32) ⊕ ((Unit) ⊕ Int32)) := zbind (f_X2_lengthOf M x4) (fun r_51 => if r_51 ≤ s then some (.inr (.inl ())) else zbind (f_X2_signAt M x4 s) (fun r_65 => zbind (f_X4_syllableAt M x3 s) (fun r_77 => if x6 = r_65 then f_X10_goTogether_94_L43 M x1 x2 x3 x4 x5 x6 x7 s r_65 r_77 (zI 1) else f_X10_goTogether_94_L43 M x1 x2 x3 x4 x5 x6 x7 s r_65 r_77 (zI 0))))
set_option maxRecDepth 100000 in
set_option maxHeartbeats 4000000 in
theorem w_X10_goTogether_L43 {E : ZEv} {G : ZG} {K : Int32 → Prop} (M : ZMem) (h : zRu lyC E G (zRp M K) cX10_goTogether RX10 11 (some .boolean) 2) (x1 : Int32) (x2 : Int32) (x3 : Int32) (x4 : Int32) (x5 : Int32) (x6 : Int32) (x7 : Int32) (s : (Int32)) (hk : zOk (zloop (f_X10_goTogether_L43 M x1 x2 x3 x4 x5 x6 x7) s) (fun e => zsel e (fun e0 => G M 165 [(0, zrf E 59), (1, .int x1), (2, .int x2), (3, .int x3), (4, .int x4), (5, .int x5)] []) (fun f0 => K f0))) : G M 43 [(0, zrf E 59), (1, .int x1), (2, .int x2), (3, .int x3), (4, .int x4), (5, .int x5), (6, .int x6), (7, .int x7), (8, .int s)] [] := by
  refine zloop_walk (P := fun s => G M 43 [(0, zrf E 59), (1, .int x1), (2, .int x2), (3, .int x3), (4, .int x4), (5, .int x5), (6, .int x6), (7, .int x7), (8, .int s)] []) hk (fun s hk => ?_)
  unfold f_X10_goTogether_L43 at hk
  refine zr_iload h dX10_goTogether_43 8 rfl ?_
  refine zr_aload_n h dX10_goTogether_45 0 rfl rfl ?_
  refine zr_getR h zfo_X10_33 lC_59 rfl dX10_goTogether_46 ?_
  refine zr_iload h dX10_goTogether_49 4 rfl ?_
  refine zr_callVp h lC_34 zcw_X10_99 (by decide) (c_X2_lengthOf E M x4 _ (zOk_bind hk)) rfl rfl (Nat.le_of_ble_eq_true rfl) dX10_goTogether_51 (fun r_51 hk => ?_)
  refine zr_icmp_ge (tgt := 165) h dX10_goTogether_54 (by decide) (fun c => ?_) (fun c => ?_)
  · have hk := zOk_t c hk
    have hk := zOk_some hk
    exact zr_weak h [0, 1, 2, 3, 4, 5] rfl hk
  · have hk := zOk_f c hk
    refine zr_aload_n h dX10_goTogether_57 0 rfl rfl ?_
    refine zr_getR h zfo_X10_33 lC_59 rfl dX10_goTogether_58 ?_
    refine zr_iload h dX10_goTogether_61 4 rfl ?_
    refine zr_iload h dX10_goTogether_63 8 rfl ?_
    refine zr_callVp h lC_34 zcw_X10_103 (by decide) (c_X2_signAt E M x4 s _ (zOk_bind hk)) rfl rfl (Nat.le_of_ble_eq_true rfl) dX10_goTogether_65 (fun r_65 hk => ?_)
    refine zr_istore (L' := [(0, zrf E 59), (1, .int x1), (2, .int x2), (3, .int x3), (4, .int x4), (5, .int x5), (6, .int x6), (7, .int x7), (8, .int s), (9, .int r_65)]) h [1, 2, 3, 4, 5, 6, 7, 8, 9, 0] dX10_goTogether_68 (by decide) rfl ?_
    refine zr_aload_n h dX10_goTogether_70 0 rfl rfl ?_
    refine zr_getR h zfo_X10_29 lC_59 rfl dX10_goTogether_71 ?_
    refine zr_iload_n h dX10_goTogether_74 3 rfl rfl ?_
    refine zr_iload h dX10_goTogether_75 8 rfl ?_
    refine zr_callVp h lC_17 zcw_X10_106 (by decide) (c_X4_syllableAt E M x3 s _ (zOk_bind hk)) rfl rfl (Nat.le_of_ble_eq_true rfl) dX10_goTogether_77 (fun r_77 hk => ?_)
    refine zr_istore (L' := [(0, zrf E 59), (1, .int x1), (2, .int x2), (3, .int x3), (4, .int x4), (5, .int x5), (6, .int x6), (7, .int x7), (8, .int s), (9, .int r_65), (10, .int r_77)]) h [1, 2, 3, 4, 5, 6, 7, 8, 9, 10, 0] dX10_goTogether_80 (by decide) rfl ?_
    refine zr_iload h dX10_goTogether_82 6 rfl ?_
    refine zr_iload h dX10_goTogether_84 9 rfl ?_
    refine zr_icmp_ne (tgt := 93) h dX10_goTogether_86 (by decide) (fun c => ?_) (fun c => ?_)
    · have hk := zOk_t c hk
      refine zr_iconst (v := (zI 1)) h dX10_goTogether_89 rfl ?_
      refine zr_goto (tgt := 94) h dX10_goTogether_90 (by decide) ?_
      exact w_X10_goTogether_94_L43 M h x1 x2 x3 x4 x5 x6 x7 s r_65 r_77 (zI 1) hk
    · have hk := zOk_f c hk
      refine zr_iconst (v := (zI 0)) h dX10_goTogether_93 rfl ?_
      exact w_X10_goTogether_94_L43 M h x1 x2 x3 x4 x5 x6 x7 s r_65 r_77 (zI 0) hk
noncomputable def f_X10_goTogether_L3 (M : ZMem) (x1 : Int32) (x2 : Int32) (x3 : Int32) (x4 : Int32) (s : (Int32)) : Option ((Int32) ⊕ ((Unit) ⊕ Int32)) := zbind (f_X2_lengthOf M x2) (fun r_10 => if r_10 ≤ s then some (.inr (.inl ())) else zbind (f_X2_signAt M x2 s) (fun r_23 => zbind (f_X4_syllableAt M x1 s) (fun r_35 => zbind (zloop (f_X10_goTogether_L43 M x1 x2 x3 x4 s r_23 r_35) (zI 0)) (fun e43 => zsel e43 (fun e43a => zbnd (s + (zI 1)) (fun x5_165 => some (.inl x5_165))) (fun e43b => some (.inr (.inr e43b)))))))
set_option maxRecDepth 100000 in
set_option maxHeartbeats 4000000 in
theorem w_X10_goTogether_L3 {E : ZEv} {G : ZG} {K : Int32 → Prop} (M : ZMem) (h : zRu lyC E G (zRp M K) cX10_goTogether RX10 11 (some .boolean) 2) (x1 : Int32) (x2 : Int32) (x3 : Int32) (x4 : Int32) (s : (Int32)) (hk : zOk (zloop (f_X10_goTogether_L3 M x1 x2 x3 x4) s) (fun e => zsel e (fun e0 => G M 171 [] []) (fun f0 => K f0))) : G M 3 [(0, zrf E 59), (1, .int x1), (2, .int x2), (3, .int x3), (4, .int x4), (5, .int s)] [] := by
  refine zloop_walk (P := fun s => G M 3 [(0, zrf E 59), (1, .int x1), (2, .int x2), (3, .int x3), (4, .int x4), (5, .int s)] []) hk (fun s hk => ?_)
  unfold f_X10_goTogether_L3 at hk
  refine zr_iload h dX10_goTogether_3 5 rfl ?_
  refine zr_aload_n h dX10_goTogether_5 0 rfl rfl ?_
  refine zr_getR h zfo_X10_33 lC_59 rfl dX10_goTogether_6 ?_
  refine zr_iload_n h dX10_goTogether_9 2 rfl rfl ?_
  refine zr_callVp h lC_34 zcw_X10_99 (by decide) (c_X2_lengthOf E M x2 _ (zOk_bind hk)) rfl rfl (Nat.le_of_ble_eq_true rfl) dX10_goTogether_10 (fun r_10 hk => ?_)
  refine zr_icmp_ge (tgt := 171) h dX10_goTogether_13 (by decide) (fun c => ?_) (fun c => ?_)
  · have hk := zOk_t c hk
    have hk := zOk_some hk
    exact zr_weak h [] rfl hk
  · have hk := zOk_f c hk
    refine zr_aload_n h dX10_goTogether_16 0 rfl rfl ?_
    refine zr_getR h zfo_X10_33 lC_59 rfl dX10_goTogether_17 ?_
    refine zr_iload_n h dX10_goTogether_20 2 rfl rfl ?_
    refine zr_iload h dX10_goTogether_21 5 rfl ?_
    refine zr_callVp h lC_34 zcw_X10_103 (by decide) (c_X2_signAt E M x2 s _ (zOk_bind hk)) rfl rfl (Nat.le_of_ble_eq_true rfl) dX10_goTogether_23 (fun r_23 hk => ?_)
    refine zr_istore (L' := [(0, zrf E 59), (1, .int x1), (2, .int x2), (3, .int x3), (4, .int x4), (5, .int s), (6, .int r_23)]) h [1, 2, 3, 4, 5, 6, 0] dX10_goTogether_26 (by decide) rfl ?_
    refine zr_aload_n h dX10_goTogether_28 0 rfl rfl ?_
    refine zr_getR h zfo_X10_29 lC_59 rfl dX10_goTogether_29 ?_
    refine zr_iload_n h dX10_goTogether_32 1 rfl rfl ?_
    refine zr_iload h dX10_goTogether_33 5 rfl ?_
    refine zr_callVp h lC_17 zcw_X10_106 (by decide) (c_X4_syllableAt E M x1 s _ (zOk_bind hk)) rfl rfl (Nat.le_of_ble_eq_true rfl) dX10_goTogether_35 (fun r_35 hk => ?_)
    refine zr_istore (L' := [(0, zrf E 59), (1, .int x1), (2, .int x2), (3, .int x3), (4, .int x4), (5, .int s), (6, .int r_23), (7, .int r_35)]) h [1, 2, 3, 4, 5, 6, 7, 0] dX10_goTogether_38 (by decide) rfl ?_
    refine zr_iconst (v := (zI 0)) h dX10_goTogether_40 rfl ?_
    refine zr_istore (L' := [(0, zrf E 59), (1, .int x1), (2, .int x2), (3, .int x3), (4, .int x4), (5, .int s), (6, .int r_23), (7, .int r_35), (8, .int (zI 0))]) h [1, 2, 3, 4, 5, 6, 7, 8, 0] dX10_goTogether_41 (by decide) rfl ?_
    refine w_X10_goTogether_L43 M h x1 x2 x3 x4 s r_23 r_35 (zI 0) (zOk_mono (zOk_bind hk) (fun e43 hk => ?_))
    cases e43 with
    | inl e43a =>
      have hk := zOk_selL hk
      obtain ⟨x5_165, ex⟩ : ∃ y : Int32, y = s + (zI 1) := ⟨_, rfl⟩
      have hk := zOk_bnd ex hk
      refine zr_iinc (v := x5_165) (L' := [(0, zrf E 59), (1, .int x1), (2, .int x2), (3, .int x3), (4, .int x4), (5, .int x5_165)]) h 5 [1, 2, 3, 4, 5, 0] dX10_goTogether_165 rfl (by rw [ex]; rfl) (by decide) rfl ?_
      refine zr_goto (tgt := 3) h dX10_goTogether_168 (by decide) ?_
      have hk := zOk_some hk
      exact zr_weak h [0, 1, 2, 3, 4, 5] rfl hk
    | inr e43b =>
      have hk := zOk_selR hk
      have hk := zOk_some hk
      exact hk
noncomputable def f_X10_goTogether (M : ZMem) (x1 : Int32) (x2 : Int32) (x3 : Int32) (x4 : Int32) : Option Int32 := zbind (zloop (f_X10_goTogether_L3 M x1 x2 x3 x4) (zI 0)) (fun e3 => zsel e3 (fun e3a => some (zI 1)) (fun e3b => some e3b))
set_option maxRecDepth 100000 in
set_option maxHeartbeats 4000000 in
theorem c_X10_goTogether (E : ZEv) (M : ZMem) (x1 : Int32) (x2 : Int32) (x3 : Int32) (x4 : Int32) (K : Int32 → Prop) (hk : zOk (f_X10_goTogether M x1 x2 x3 x4) K) : zCon lyC E yX10_goTogether cX10_goTogether 11 (some .boolean) 2 [zrf E 59, .int x1, .int x2, .int x3, .int x4] M (zRp M K) := by
  refine zcon_of (L0 := [(0, zrf E 59), (1, .int x1), (2, .int x2), (3, .int x3), (4, .int x4)]) (by decide) rfl (Nat.le_of_ble_eq_true rfl) (fun G h => ?_)
  have h : zRu lyC E G (zRp M K) cX10_goTogether RX10 11 (some .boolean) 2 := h
  unfold f_X10_goTogether at hk
  refine zr_iconst (v := (zI 0)) h dX10_goTogether_0 rfl ?_
  refine zr_istore (L' := [(0, zrf E 59), (1, .int x1), (2, .int x2), (3, .int x3), (4, .int x4), (5, .int (zI 0))]) h [1, 2, 3, 4, 5, 0] dX10_goTogether_1 (by decide) rfl ?_
  refine w_X10_goTogether_L3 M h x1 x2 x3 x4 (zI 0) (zOk_mono (zOk_bind hk) (fun e3 hk => ?_))
  cases e3 with
  | inl e3a =>
    have hk := zOk_selL hk
    refine zr_iconst (v := (zI 1)) h dX10_goTogether_171 rfl ?_
    have hk := zOk_some hk
    exact zr_zret h dX10_goTogether_172 (by decide) ⟨rfl, _, rfl, hk⟩
  | inr e3b =>
    have hk := zOk_selR hk
    have hk := zOk_some hk
    exact hk
theorem dX10_openAt_0 : decode cX10_openAt 0 = .ok (.iload_n 0, 1) := by decide +kernel
theorem dX10_openAt_1 : decode cX10_openAt 1 = .ok (.ifCond .lt 21, 3) := by decide +kernel
theorem dX10_openAt_4 : decode cX10_openAt 4 = .ok (.iload_n 0, 1) := by decide +kernel
theorem dX10_openAt_5 : decode cX10_openAt 5 = .ok (.iconst 4, 1) := by decide +kernel
theorem dX10_openAt_6 : decode cX10_openAt 6 = .ok (.if_icmp .ge 16, 3) := by decide +kernel
theorem dX10_openAt_9 : decode cX10_openAt 9 = .ok (.iload_n 1, 1) := by decide +kernel
theorem dX10_openAt_10 : decode cX10_openAt 10 = .ok (.ifCond .lt 12, 3) := by decide +kernel
theorem dX10_openAt_13 : decode cX10_openAt 13 = .ok (.iload_n 1, 1) := by decide +kernel
theorem dX10_openAt_14 : decode cX10_openAt 14 = .ok (.iconst 4, 1) := by decide +kernel
theorem dX10_openAt_15 : decode cX10_openAt 15 = .ok (.if_icmp .ge 7, 3) := by decide +kernel
theorem dX10_openAt_18 : decode cX10_openAt 18 = .ok (.iconst 1, 1) := by decide +kernel
theorem dX10_openAt_19 : decode cX10_openAt 19 = .ok (.goto 4, 3) := by decide +kernel
theorem dX10_openAt_22 : decode cX10_openAt 22 = .ok (.iconst 0, 1) := by decide +kernel
theorem dX10_openAt_23 : decode cX10_openAt 23 = .ok (.istore_n 2, 1) := by decide +kernel
theorem dX10_openAt_24 : decode cX10_openAt 24 = .ok (.iload_n 2, 1) := by decide +kernel
theorem dX10_openAt_25 : decode cX10_openAt 25 = .ok (.ifCond .eq 13, 3) := by decide +kernel
theorem dX10_openAt_28 : decode cX10_openAt 28 = .ok (.iload_n 0, 1) := by decide +kernel
theorem dX10_openAt_29 : decode cX10_openAt 29 = .ok (.iconst 4, 1) := by decide +kernel
theorem dX10_openAt_30 : decode cX10_openAt 30 = .ok (.imul, 1) := by decide +kernel
theorem dX10_openAt_31 : decode cX10_openAt 31 = .ok (.iload_n 1, 1) := by decide +kernel
theorem dX10_openAt_32 : decode cX10_openAt 32 = .ok (.iadd, 1) := by decide +kernel
theorem dX10_openAt_33 : decode cX10_openAt 33 = .ok (.iconst 3, 1) := by decide +kernel
theorem dX10_openAt_34 : decode cX10_openAt 34 = .ok (.imul, 1) := by decide +kernel
theorem dX10_openAt_35 : decode cX10_openAt 35 = .ok (.goto 4, 3) := by decide +kernel
theorem dX10_openAt_38 : decode cX10_openAt 38 = .ok (.iconst (-1), 1) := by decide +kernel
theorem dX10_openAt_39 : decode cX10_openAt 39 = .ok (.ireturn, 1) := by decide +kernel
noncomputable def f_X10_openAt_23 (M : ZMem) (x0 : Int32) (x1 : Int32) (v0 : Int32) : Option Int32 := if v0 = (zI 0) then some (zI (-1)) else some (((x0 * (zI 4)) + x1) * (zI 3))
set_option maxRecDepth 100000 in
set_option maxHeartbeats 4000000 in
theorem w_X10_openAt_23 {ly : List ZEnt} {E : ZEv} {G : ZG} {K : Int32 → Prop} (M : ZMem) (h : zRu ly E G (zRp M K) cX10_openAt RX10 3 (some .int) 0) (x0 : Int32) (x1 : Int32) (v0 : Int32) (hk : zOk (f_X10_openAt_23 M x0 x1 v0) K) : G M 23 [(0, .int x0), (1, .int x1)] [.int v0] := by
  unfold f_X10_openAt_23 at hk
  refine zr_istore_n (L' := [(0, .int x0), (1, .int x1), (2, .int v0)]) h [1, 2, 0] dX10_openAt_23 rfl (by decide) rfl ?_
  refine zr_iload_n h dX10_openAt_24 2 rfl rfl ?_
  refine zr_if_eq (tgt := 38) h dX10_openAt_25 (by decide) (fun c => ?_) (fun c => ?_)
  · have hk := zOk_t c hk
    refine zr_iconst (v := (zI (-1))) h dX10_openAt_38 rfl ?_
    have hk := zOk_some hk
    exact zr_iret h dX10_openAt_39 ⟨rfl, _, rfl, hk⟩
  · have hk := zOk_f c hk
    refine zr_iload_n h dX10_openAt_28 0 rfl rfl ?_
    refine zr_iconst (v := (zI 4)) h dX10_openAt_29 rfl ?_
    refine zr_imul h dX10_openAt_30 ?_
    refine zr_iload_n h dX10_openAt_31 1 rfl rfl ?_
    refine zr_iadd h dX10_openAt_32 ?_
    refine zr_iconst (v := (zI 3)) h dX10_openAt_33 rfl ?_
    refine zr_imul h dX10_openAt_34 ?_
    refine zr_goto (tgt := 39) h dX10_openAt_35 (by decide) ?_
    have hk := zOk_some hk
    exact zr_iret h dX10_openAt_39 ⟨rfl, _, rfl, hk⟩
noncomputable def f_X10_openAt_22 (M : ZMem) (x0 : Int32) (x1 : Int32) : Option Int32 := f_X10_openAt_23 M x0 x1 (zI 0)
set_option maxRecDepth 100000 in
set_option maxHeartbeats 4000000 in
theorem w_X10_openAt_22 {ly : List ZEnt} {E : ZEv} {G : ZG} {K : Int32 → Prop} (M : ZMem) (h : zRu ly E G (zRp M K) cX10_openAt RX10 3 (some .int) 0) (x0 : Int32) (x1 : Int32) (hk : zOk (f_X10_openAt_22 M x0 x1) K) : G M 22 [(0, .int x0), (1, .int x1)] [] := by
  unfold f_X10_openAt_22 at hk
  refine zr_iconst (v := (zI 0)) h dX10_openAt_22 rfl ?_
  exact w_X10_openAt_23 M h x0 x1 (zI 0) hk
noncomputable def f_X10_openAt (M : ZMem) (x0 : Int32) (x1 : Int32) : Option Int32 := if x0 < (zI 0) then f_X10_openAt_22 M x0 x1 else if (zI 4) ≤ x0 then f_X10_openAt_22 M x0 x1 else if x1 < (zI 0) then f_X10_openAt_22 M x0 x1 else if (zI 4) ≤ x1 then f_X10_openAt_22 M x0 x1 else f_X10_openAt_23 M x0 x1 (zI 1)
set_option maxRecDepth 100000 in
set_option maxHeartbeats 4000000 in
theorem c_X10_openAt {ly : List ZEnt} (E : ZEv) (M : ZMem) (x0 : Int32) (x1 : Int32) (K : Int32 → Prop) (hk : zOk (f_X10_openAt M x0 x1) K) : zCon ly E yX10_openAt cX10_openAt 3 (some .int) 0 [.int x0, .int x1] M (zRp M K) := by
  refine zcon_of (L0 := [(0, .int x0), (1, .int x1)]) (by decide) rfl (Nat.le_of_ble_eq_true rfl) (fun G h => ?_)
  have h : zRu ly E G (zRp M K) cX10_openAt RX10 3 (some .int) 0 := h
  unfold f_X10_openAt at hk
  refine zr_iload_n h dX10_openAt_0 0 rfl rfl ?_
  refine zr_if_lt (tgt := 22) h dX10_openAt_1 (by decide) (fun c => ?_) (fun c => ?_)
  · have hk := zOk_t c hk
    exact w_X10_openAt_22 M h x0 x1 hk
  · have hk := zOk_f c hk
    refine zr_iload_n h dX10_openAt_4 0 rfl rfl ?_
    refine zr_iconst (v := (zI 4)) h dX10_openAt_5 rfl ?_
    refine zr_icmp_ge (tgt := 22) h dX10_openAt_6 (by decide) (fun c => ?_) (fun c => ?_)
    · have hk := zOk_t c hk
      exact w_X10_openAt_22 M h x0 x1 hk
    · have hk := zOk_f c hk
      refine zr_iload_n h dX10_openAt_9 1 rfl rfl ?_
      refine zr_if_lt (tgt := 22) h dX10_openAt_10 (by decide) (fun c => ?_) (fun c => ?_)
      · have hk := zOk_t c hk
        exact w_X10_openAt_22 M h x0 x1 hk
      · have hk := zOk_f c hk
        refine zr_iload_n h dX10_openAt_13 1 rfl rfl ?_
        refine zr_iconst (v := (zI 4)) h dX10_openAt_14 rfl ?_
        refine zr_icmp_ge (tgt := 22) h dX10_openAt_15 (by decide) (fun c => ?_) (fun c => ?_)
        · have hk := zOk_t c hk
          exact w_X10_openAt_22 M h x0 x1 hk
        · have hk := zOk_f c hk
          refine zr_iconst (v := (zI 1)) h dX10_openAt_18 rfl ?_
          refine zr_goto (tgt := 23) h dX10_openAt_19 (by decide) ?_
          exact w_X10_openAt_23 M h x0 x1 (zI 1) hk
theorem dX10_putBit_0 : decode cX10_putBit 0 = .ok (.iload_n 1, 1) := by decide +kernel
theorem dX10_putBit_1 : decode cX10_putBit 1 = .ok (.ifCond .lt 41, 3) := by decide +kernel
theorem dX10_putBit_4 : decode cX10_putBit 4 = .ok (.iload_n 2, 1) := by decide +kernel
theorem dX10_putBit_5 : decode cX10_putBit 5 = .ok (.ifCond .lt 37, 3) := by decide +kernel
theorem dX10_putBit_8 : decode cX10_putBit 8 = .ok (.iload_n 2, 1) := by decide +kernel
theorem dX10_putBit_9 : decode cX10_putBit 9 = .ok (.bipush 120, 2) := by decide +kernel
theorem dX10_putBit_11 : decode cX10_putBit 11 = .ok (.if_icmp .ge 31, 3) := by decide +kernel
theorem dX10_putBit_14 : decode cX10_putBit 14 = .ok (.iload_n 1, 1) := by decide +kernel
theorem dX10_putBit_15 : decode cX10_putBit 15 = .ok (.iload_n 2, 1) := by decide +kernel
theorem dX10_putBit_16 : decode cX10_putBit 16 = .ok (.bipush 40, 2) := by decide +kernel
theorem dX10_putBit_18 : decode cX10_putBit 18 = .ok (.idiv, 1) := by decide +kernel
theorem dX10_putBit_19 : decode cX10_putBit 19 = .ok (.iadd, 1) := by decide +kernel
theorem dX10_putBit_20 : decode cX10_putBit 20 = .ok (.aload_n 0, 1) := by decide +kernel
theorem dX10_putBit_21 : decode cX10_putBit 21 = .ok (.arraylength, 1) := by decide +kernel
theorem dX10_putBit_22 : decode cX10_putBit 22 = .ok (.if_icmp .ge 20, 3) := by decide +kernel
theorem dX10_putBit_25 : decode cX10_putBit 25 = .ok (.aload_n 0, 1) := by decide +kernel
theorem dX10_putBit_26 : decode cX10_putBit 26 = .ok (.iload_n 1, 1) := by decide +kernel
theorem dX10_putBit_27 : decode cX10_putBit 27 = .ok (.iload_n 2, 1) := by decide +kernel
theorem dX10_putBit_28 : decode cX10_putBit 28 = .ok (.bipush 40, 2) := by decide +kernel
theorem dX10_putBit_30 : decode cX10_putBit 30 = .ok (.idiv, 1) := by decide +kernel
theorem dX10_putBit_31 : decode cX10_putBit 31 = .ok (.iadd, 1) := by decide +kernel
theorem dX10_putBit_32 : decode cX10_putBit 32 = .ok (.dup2, 1) := by decide +kernel
theorem dX10_putBit_33 : decode cX10_putBit 33 = .ok (.laload, 1) := by decide +kernel
theorem dX10_putBit_34 : decode cX10_putBit 34 = .ok (.lconst 1, 1) := by decide +kernel
theorem dX10_putBit_35 : decode cX10_putBit 35 = .ok (.iload_n 2, 1) := by decide +kernel
theorem dX10_putBit_36 : decode cX10_putBit 36 = .ok (.bipush 40, 2) := by decide +kernel
theorem dX10_putBit_38 : decode cX10_putBit 38 = .ok (.irem, 1) := by decide +kernel
theorem dX10_putBit_39 : decode cX10_putBit 39 = .ok (.lshl, 1) := by decide +kernel
theorem dX10_putBit_40 : decode cX10_putBit 40 = .ok (.lor, 1) := by decide +kernel
theorem dX10_putBit_41 : decode cX10_putBit 41 = .ok (.lastore, 1) := by decide +kernel
theorem dX10_putBit_42 : decode cX10_putBit 42 = .ok (.return_, 1) := by decide +kernel
noncomputable def f_X10_putBit (q0 : Nat) (n0 : Nat) (M : ZMem) (x1 : Int32) (x2 : Int32) : Option ZMem := if x1 < (zI 0) then some M else if x2 < (zI 0) then some M else if (zI 120) ≤ x2 then some M else if (zI n0) ≤ (x1 + (x2 / (zI 40))) then some M else zchk (zin (x1 + (x2 / (zI 40))) n0) (zchk (zin (x1 + (x2 / (zI 40))) n0) (zbnd (zstL M q0 (zix (x1 + (x2 / (zI 40)))) ((M.2 q0 (zix (x1 + (x2 / (zI 40))))) ||| ((1 : Int64) <<< (((x2 - x2 / (zI 40) * (zI 40)) : Int32).toInt64 &&& 63)))) (fun M_41 => some M_41)))
set_option maxRecDepth 100000 in
set_option maxHeartbeats 4000000 in
theorem c_X10_putBit {ly : List ZEnt} (E : ZEv) (q0 : Nat) (n0 : Nat) (hq0 : ly[q0]? = some (.inl (3, n0))) (M : ZMem) (x1 : Int32) (x2 : Int32) (K : ZMem → Prop) (hk : zOk (f_X10_putBit q0 n0 M x1 x2) K) : zCon ly E yX10_putBit cX10_putBit 3 none 0 [zrf E q0, .int x1, .int x2] M (zRv K) := by
  refine zcon_of (L0 := [(0, zrf E q0), (1, .int x1), (2, .int x2)]) (by decide) rfl (Nat.le_of_ble_eq_true rfl) (fun G h => ?_)
  have h : zRu ly E G (zRv K) cX10_putBit RX10 3 none 0 := h
  unfold f_X10_putBit at hk
  refine zr_iload_n h dX10_putBit_0 1 rfl rfl ?_
  refine zr_if_lt (tgt := 42) h dX10_putBit_1 (by decide) (fun c => ?_) (fun c => ?_)
  · have hk := zOk_t c hk
    have hk := zOk_some hk
    exact zr_vret h dX10_putBit_42 ⟨rfl, hk⟩
  · have hk := zOk_f c hk
    refine zr_iload_n h dX10_putBit_4 2 rfl rfl ?_
    refine zr_if_lt (tgt := 42) h dX10_putBit_5 (by decide) (fun c => ?_) (fun c => ?_)
    · have hk := zOk_t c hk
      have hk := zOk_some hk
      exact zr_vret h dX10_putBit_42 ⟨rfl, hk⟩
    · have hk := zOk_f c hk
      refine zr_iload_n h dX10_putBit_8 2 rfl rfl ?_
      refine zr_bipush (v := (zI 120)) h dX10_putBit_9 (by decide) ?_
      refine zr_icmp_ge (tgt := 42) h dX10_putBit_11 (by decide) (fun c => ?_) (fun c => ?_)
      · have hk := zOk_t c hk
        have hk := zOk_some hk
        exact zr_vret h dX10_putBit_42 ⟨rfl, hk⟩
      · have hk := zOk_f c hk
        refine zr_iload_n h dX10_putBit_14 1 rfl rfl ?_
        refine zr_iload_n h dX10_putBit_15 2 rfl rfl ?_
        refine zr_bipush (v := (zI 40)) h dX10_putBit_16 (by decide) ?_
        refine zr_idiv h dX10_putBit_18 (by decide) ?_
        refine zr_iadd h dX10_putBit_19 ?_
        refine zr_aload_n h dX10_putBit_20 0 rfl rfl ?_
        refine zr_alen h (by decide) hq0 dX10_putBit_21 ?_
        refine zr_icmp_ge (tgt := 42) h dX10_putBit_22 (by decide) (fun c => ?_) (fun c => ?_)
        · have hk := zOk_t c hk
          have hk := zOk_some hk
          exact zr_vret h dX10_putBit_42 ⟨rfl, hk⟩
        · have hk := zOk_f c hk
          refine zr_aload_n h dX10_putBit_25 0 rfl rfl ?_
          refine zr_iload_n h dX10_putBit_26 1 rfl rfl ?_
          refine zr_iload_n h dX10_putBit_27 2 rfl rfl ?_
          refine zr_bipush (v := (zI 40)) h dX10_putBit_28 (by decide) ?_
          refine zr_idiv h dX10_putBit_30 (by decide) ?_
          refine zr_iadd h dX10_putBit_31 ?_
          refine zr_dup2_11 h dX10_putBit_32 rfl rfl ?_
          have hb := zOk_chk hk
          have hk := hb.2
          refine zr_lald h hq0 hb.1 dX10_putBit_33 ?_
          refine zr_lconst (v := 1) h dX10_putBit_34 (by decide) ?_
          refine zr_iload_n h dX10_putBit_35 2 rfl rfl ?_
          refine zr_bipush (v := (zI 40)) h dX10_putBit_36 (by decide) ?_
          refine zr_irem h dX10_putBit_38 (by decide) ?_
          refine zr_lshl h dX10_putBit_39 ?_
          refine zr_lor h dX10_putBit_40 ?_
          have hb := zOk_chk hk
          have hk := hb.2
          refine zr_last h hq0 hb.1 dX10_putBit_41 ?_
          refine zr_mem (fun M_41 eM => ?_)
          have hk := zOk_bnd eM hk
          have hk := zOk_some hk
          exact zr_vret h dX10_putBit_42 ⟨rfl, hk⟩
theorem dX10_hasBit_0 : decode cX10_hasBit 0 = .ok (.iload_n 1, 1) := by decide +kernel
theorem dX10_hasBit_1 : decode cX10_hasBit 1 = .ok (.ifCond .lt 48, 3) := by decide +kernel
theorem dX10_hasBit_4 : decode cX10_hasBit 4 = .ok (.iload_n 2, 1) := by decide +kernel
theorem dX10_hasBit_5 : decode cX10_hasBit 5 = .ok (.ifCond .lt 44, 3) := by decide +kernel
theorem dX10_hasBit_8 : decode cX10_hasBit 8 = .ok (.iload_n 2, 1) := by decide +kernel
theorem dX10_hasBit_9 : decode cX10_hasBit 9 = .ok (.bipush 120, 2) := by decide +kernel
theorem dX10_hasBit_11 : decode cX10_hasBit 11 = .ok (.if_icmp .ge 38, 3) := by decide +kernel
theorem dX10_hasBit_14 : decode cX10_hasBit 14 = .ok (.iload_n 1, 1) := by decide +kernel
theorem dX10_hasBit_15 : decode cX10_hasBit 15 = .ok (.iload_n 2, 1) := by decide +kernel
theorem dX10_hasBit_16 : decode cX10_hasBit 16 = .ok (.bipush 40, 2) := by decide +kernel
theorem dX10_hasBit_18 : decode cX10_hasBit 18 = .ok (.idiv, 1) := by decide +kernel
theorem dX10_hasBit_19 : decode cX10_hasBit 19 = .ok (.iadd, 1) := by decide +kernel
theorem dX10_hasBit_20 : decode cX10_hasBit 20 = .ok (.aload_n 0, 1) := by decide +kernel
theorem dX10_hasBit_21 : decode cX10_hasBit 21 = .ok (.arraylength, 1) := by decide +kernel
theorem dX10_hasBit_22 : decode cX10_hasBit 22 = .ok (.if_icmp .ge 27, 3) := by decide +kernel
theorem dX10_hasBit_25 : decode cX10_hasBit 25 = .ok (.aload_n 0, 1) := by decide +kernel
theorem dX10_hasBit_26 : decode cX10_hasBit 26 = .ok (.iload_n 1, 1) := by decide +kernel
theorem dX10_hasBit_27 : decode cX10_hasBit 27 = .ok (.iload_n 2, 1) := by decide +kernel
theorem dX10_hasBit_28 : decode cX10_hasBit 28 = .ok (.bipush 40, 2) := by decide +kernel
theorem dX10_hasBit_30 : decode cX10_hasBit 30 = .ok (.idiv, 1) := by decide +kernel
theorem dX10_hasBit_31 : decode cX10_hasBit 31 = .ok (.iadd, 1) := by decide +kernel
theorem dX10_hasBit_32 : decode cX10_hasBit 32 = .ok (.laload, 1) := by decide +kernel
theorem dX10_hasBit_33 : decode cX10_hasBit 33 = .ok (.iload_n 2, 1) := by decide +kernel
theorem dX10_hasBit_34 : decode cX10_hasBit 34 = .ok (.bipush 40, 2) := by decide +kernel
theorem dX10_hasBit_36 : decode cX10_hasBit 36 = .ok (.irem, 1) := by decide +kernel
theorem dX10_hasBit_37 : decode cX10_hasBit 37 = .ok (.lushr, 1) := by decide +kernel
theorem dX10_hasBit_38 : decode cX10_hasBit 38 = .ok (.lconst 1, 1) := by decide +kernel
theorem dX10_hasBit_39 : decode cX10_hasBit 39 = .ok (.land, 1) := by decide +kernel
theorem dX10_hasBit_40 : decode cX10_hasBit 40 = .ok (.lconst 1, 1) := by decide +kernel
theorem dX10_hasBit_41 : decode cX10_hasBit 41 = .ok (.lcmp, 1) := by decide +kernel
theorem dX10_hasBit_42 : decode cX10_hasBit 42 = .ok (.ifCond .ne 7, 3) := by decide +kernel
theorem dX10_hasBit_45 : decode cX10_hasBit 45 = .ok (.iconst 1, 1) := by decide +kernel
theorem dX10_hasBit_46 : decode cX10_hasBit 46 = .ok (.goto 4, 3) := by decide +kernel
theorem dX10_hasBit_49 : decode cX10_hasBit 49 = .ok (.iconst 0, 1) := by decide +kernel
theorem dX10_hasBit_50 : decode cX10_hasBit 50 = .ok (.ireturn, 1) := by decide +kernel
noncomputable def f_X10_hasBit (q0 : Nat) (n0 : Nat) (M : ZMem) (x1 : Int32) (x2 : Int32) : Option Int32 := if x1 < (zI 0) then some (zI 0) else if x2 < (zI 0) then some (zI 0) else if (zI 120) ≤ x2 then some (zI 0) else if (zI n0) ≤ (x1 + (x2 / (zI 40))) then some (zI 0) else zchk (zin (x1 + (x2 / (zI 40))) n0) (if (lg_cmp ((zlushr (M.2 q0 (zix (x1 + (x2 / (zI 40))))) (x2 - x2 / (zI 40) * (zI 40))) &&& (1 : Int64)) (1 : Int64)) = (zI 0) then some (zI 1) else some (zI 0))
set_option maxRecDepth 100000 in
set_option maxHeartbeats 4000000 in
theorem c_X10_hasBit {ly : List ZEnt} (E : ZEv) (q0 : Nat) (n0 : Nat) (hq0 : ly[q0]? = some (.inl (3, n0))) (M : ZMem) (x1 : Int32) (x2 : Int32) (K : Int32 → Prop) (hk : zOk (f_X10_hasBit q0 n0 M x1 x2) K) : zCon ly E yX10_hasBit cX10_hasBit 3 (some .boolean) 0 [zrf E q0, .int x1, .int x2] M (zRp M K) := by
  refine zcon_of (L0 := [(0, zrf E q0), (1, .int x1), (2, .int x2)]) (by decide) rfl (Nat.le_of_ble_eq_true rfl) (fun G h => ?_)
  have h : zRu ly E G (zRp M K) cX10_hasBit RX10 3 (some .boolean) 0 := h
  unfold f_X10_hasBit at hk
  refine zr_iload_n h dX10_hasBit_0 1 rfl rfl ?_
  refine zr_if_lt (tgt := 49) h dX10_hasBit_1 (by decide) (fun c => ?_) (fun c => ?_)
  · have hk := zOk_t c hk
    refine zr_iconst (v := (zI 0)) h dX10_hasBit_49 rfl ?_
    have hk := zOk_some hk
    exact zr_zret h dX10_hasBit_50 (by decide) ⟨rfl, _, rfl, hk⟩
  · have hk := zOk_f c hk
    refine zr_iload_n h dX10_hasBit_4 2 rfl rfl ?_
    refine zr_if_lt (tgt := 49) h dX10_hasBit_5 (by decide) (fun c => ?_) (fun c => ?_)
    · have hk := zOk_t c hk
      refine zr_iconst (v := (zI 0)) h dX10_hasBit_49 rfl ?_
      have hk := zOk_some hk
      exact zr_zret h dX10_hasBit_50 (by decide) ⟨rfl, _, rfl, hk⟩
    · have hk := zOk_f c hk
      refine zr_iload_n h dX10_hasBit_8 2 rfl rfl ?_
      refine zr_bipush (v := (zI 120)) h dX10_hasBit_9 (by decide) ?_
      refine zr_icmp_ge (tgt := 49) h dX10_hasBit_11 (by decide) (fun c => ?_) (fun c => ?_)
      · have hk := zOk_t c hk
        refine zr_iconst (v := (zI 0)) h dX10_hasBit_49 rfl ?_
        have hk := zOk_some hk
        exact zr_zret h dX10_hasBit_50 (by decide) ⟨rfl, _, rfl, hk⟩
      · have hk := zOk_f c hk
        refine zr_iload_n h dX10_hasBit_14 1 rfl rfl ?_
        refine zr_iload_n h dX10_hasBit_15 2 rfl rfl ?_
        refine zr_bipush (v := (zI 40)) h dX10_hasBit_16 (by decide) ?_
        refine zr_idiv h dX10_hasBit_18 (by decide) ?_
        refine zr_iadd h dX10_hasBit_19 ?_
        refine zr_aload_n h dX10_hasBit_20 0 rfl rfl ?_
        refine zr_alen h (by decide) hq0 dX10_hasBit_21 ?_
        refine zr_icmp_ge (tgt := 49) h dX10_hasBit_22 (by decide) (fun c => ?_) (fun c => ?_)
        · have hk := zOk_t c hk
          refine zr_iconst (v := (zI 0)) h dX10_hasBit_49 rfl ?_
          have hk := zOk_some hk
          exact zr_zret h dX10_hasBit_50 (by decide) ⟨rfl, _, rfl, hk⟩
        · have hk := zOk_f c hk
          refine zr_aload_n h dX10_hasBit_25 0 rfl rfl ?_
          refine zr_iload_n h dX10_hasBit_26 1 rfl rfl ?_
          refine zr_iload_n h dX10_hasBit_27 2 rfl rfl ?_
          refine zr_bipush (v := (zI 40)) h dX10_hasBit_28 (by decide) ?_
          refine zr_idiv h dX10_hasBit_30 (by decide) ?_
          refine zr_iadd h dX10_hasBit_31 ?_
          have hb := zOk_chk hk
          have hk := hb.2
          refine zr_lald h hq0 hb.1 dX10_hasBit_32 ?_
          refine zr_iload_n h dX10_hasBit_33 2 rfl rfl ?_
          refine zr_bipush (v := (zI 40)) h dX10_hasBit_34 (by decide) ?_
          refine zr_irem h dX10_hasBit_36 (by decide) ?_
          refine zr_lushr h dX10_hasBit_37 ?_
          refine zr_lconst (v := 1) h dX10_hasBit_38 (by decide) ?_
          refine zr_land h dX10_hasBit_39 ?_
          refine zr_lconst (v := 1) h dX10_hasBit_40 (by decide) ?_
          refine zr_lcmp h dX10_hasBit_41 ?_
          refine zr_if_ne (tgt := 49) h dX10_hasBit_42 (by decide) (fun c => ?_) (fun c => ?_)
          · have hk := zOk_t c hk
            refine zr_iconst (v := (zI 1)) h dX10_hasBit_45 rfl ?_
            refine zr_goto (tgt := 50) h dX10_hasBit_46 (by decide) ?_
            have hk := zOk_some hk
            exact zr_zret h dX10_hasBit_50 (by decide) ⟨rfl, _, rfl, hk⟩
          · have hk := zOk_f c hk
            refine zr_iconst (v := (zI 0)) h dX10_hasBit_49 rfl ?_
            have hk := zOk_some hk
            exact zr_zret h dX10_hasBit_50 (by decide) ⟨rfl, _, rfl, hk⟩
theorem dX10_partnersAt_0 : decode cX10_partnersAt 0 = .ok (.iload_n 0, 1) := by decide +kernel
theorem dX10_partnersAt_1 : decode cX10_partnersAt 1 = .ok (.ifCond .lt 27, 3) := by decide +kernel
theorem dX10_partnersAt_4 : decode cX10_partnersAt 4 = .ok (.iload_n 0, 1) := by decide +kernel
theorem dX10_partnersAt_5 : decode cX10_partnersAt 5 = .ok (.iload_n 1, 1) := by decide +kernel
theorem dX10_partnersAt_6 : decode cX10_partnersAt 6 = .ok (.if_icmp .ge 22, 3) := by decide +kernel
theorem dX10_partnersAt_9 : decode cX10_partnersAt 9 = .ok (.iload_n 1, 1) := by decide +kernel
theorem dX10_partnersAt_10 : decode cX10_partnersAt 10 = .ok (.iconst 4, 1) := by decide +kernel
theorem dX10_partnersAt_11 : decode cX10_partnersAt 11 = .ok (.if_icmp .ge 17, 3) := by decide +kernel
theorem dX10_partnersAt_14 : decode cX10_partnersAt 14 = .ok (.iload_n 2, 1) := by decide +kernel
theorem dX10_partnersAt_15 : decode cX10_partnersAt 15 = .ok (.ifCond .lt 13, 3) := by decide +kernel
theorem dX10_partnersAt_18 : decode cX10_partnersAt 18 = .ok (.iload_n 2, 1) := by decide +kernel
theorem dX10_partnersAt_19 : decode cX10_partnersAt 19 = .ok (.bipush 120, 2) := by decide +kernel
theorem dX10_partnersAt_21 : decode cX10_partnersAt 21 = .ok (.if_icmp .ge 7, 3) := by decide +kernel
theorem dX10_partnersAt_24 : decode cX10_partnersAt 24 = .ok (.iconst 1, 1) := by decide +kernel
theorem dX10_partnersAt_25 : decode cX10_partnersAt 25 = .ok (.goto 4, 3) := by decide +kernel
theorem dX10_partnersAt_28 : decode cX10_partnersAt 28 = .ok (.iconst 0, 1) := by decide +kernel
theorem dX10_partnersAt_29 : decode cX10_partnersAt 29 = .ok (.istore_n 3, 1) := by decide +kernel
theorem dX10_partnersAt_30 : decode cX10_partnersAt 30 = .ok (.iload_n 3, 1) := by decide +kernel
theorem dX10_partnersAt_31 : decode cX10_partnersAt 31 = .ok (.ifCond .eq 22, 3) := by decide +kernel
theorem dX10_partnersAt_34 : decode cX10_partnersAt 34 = .ok (.iload_n 1, 1) := by decide +kernel
theorem dX10_partnersAt_35 : decode cX10_partnersAt 35 = .ok (.iload_n 1, 1) := by decide +kernel
theorem dX10_partnersAt_36 : decode cX10_partnersAt 36 = .ok (.iconst 1, 1) := by decide +kernel
theorem dX10_partnersAt_37 : decode cX10_partnersAt 37 = .ok (.isub, 1) := by decide +kernel
theorem dX10_partnersAt_38 : decode cX10_partnersAt 38 = .ok (.imul, 1) := by decide +kernel
theorem dX10_partnersAt_39 : decode cX10_partnersAt 39 = .ok (.iconst 2, 1) := by decide +kernel
theorem dX10_partnersAt_40 : decode cX10_partnersAt 40 = .ok (.idiv, 1) := by decide +kernel
theorem dX10_partnersAt_41 : decode cX10_partnersAt 41 = .ok (.iload_n 0, 1) := by decide +kernel
theorem dX10_partnersAt_42 : decode cX10_partnersAt 42 = .ok (.iadd, 1) := by decide +kernel
theorem dX10_partnersAt_43 : decode cX10_partnersAt 43 = .ok (.bipush 120, 2) := by decide +kernel
theorem dX10_partnersAt_45 : decode cX10_partnersAt 45 = .ok (.imul, 1) := by decide +kernel
theorem dX10_partnersAt_46 : decode cX10_partnersAt 46 = .ok (.iload_n 2, 1) := by decide +kernel
theorem dX10_partnersAt_47 : decode cX10_partnersAt 47 = .ok (.iadd, 1) := by decide +kernel
theorem dX10_partnersAt_48 : decode cX10_partnersAt 48 = .ok (.iconst 3, 1) := by decide +kernel
theorem dX10_partnersAt_49 : decode cX10_partnersAt 49 = .ok (.imul, 1) := by decide +kernel
theorem dX10_partnersAt_50 : decode cX10_partnersAt 50 = .ok (.goto 4, 3) := by decide +kernel
theorem dX10_partnersAt_53 : decode cX10_partnersAt 53 = .ok (.iconst (-1), 1) := by decide +kernel
theorem dX10_partnersAt_54 : decode cX10_partnersAt 54 = .ok (.ireturn, 1) := by decide +kernel
noncomputable def f_X10_partnersAt_29 (M : ZMem) (x0 : Int32) (x1 : Int32) (x2 : Int32) (v0 : Int32) : Option Int32 := if v0 = (zI 0) then some (zI (-1)) else some ((((((x1 * (x1 - (zI 1))) / (zI 2)) + x0) * (zI 120)) + x2) * (zI 3))
set_option maxRecDepth 100000 in
set_option maxHeartbeats 4000000 in
theorem w_X10_partnersAt_29 {ly : List ZEnt} {E : ZEv} {G : ZG} {K : Int32 → Prop} (M : ZMem) (h : zRu ly E G (zRp M K) cX10_partnersAt RX10 4 (some .int) 0) (x0 : Int32) (x1 : Int32) (x2 : Int32) (v0 : Int32) (hk : zOk (f_X10_partnersAt_29 M x0 x1 x2 v0) K) : G M 29 [(0, .int x0), (1, .int x1), (2, .int x2)] [.int v0] := by
  unfold f_X10_partnersAt_29 at hk
  refine zr_istore_n (L' := [(0, .int x0), (1, .int x1), (2, .int x2), (3, .int v0)]) h [1, 2, 3, 0] dX10_partnersAt_29 rfl (by decide) rfl ?_
  refine zr_iload_n h dX10_partnersAt_30 3 rfl rfl ?_
  refine zr_if_eq (tgt := 53) h dX10_partnersAt_31 (by decide) (fun c => ?_) (fun c => ?_)
  · have hk := zOk_t c hk
    refine zr_iconst (v := (zI (-1))) h dX10_partnersAt_53 rfl ?_
    have hk := zOk_some hk
    exact zr_iret h dX10_partnersAt_54 ⟨rfl, _, rfl, hk⟩
  · have hk := zOk_f c hk
    refine zr_iload_n h dX10_partnersAt_34 1 rfl rfl ?_
    refine zr_iload_n h dX10_partnersAt_35 1 rfl rfl ?_
    refine zr_iconst (v := (zI 1)) h dX10_partnersAt_36 rfl ?_
    refine zr_isub h dX10_partnersAt_37 ?_
    refine zr_imul h dX10_partnersAt_38 ?_
    refine zr_iconst (v := (zI 2)) h dX10_partnersAt_39 rfl ?_
    refine zr_idiv h dX10_partnersAt_40 (by decide) ?_
    refine zr_iload_n h dX10_partnersAt_41 0 rfl rfl ?_
    refine zr_iadd h dX10_partnersAt_42 ?_
    refine zr_bipush (v := (zI 120)) h dX10_partnersAt_43 (by decide) ?_
    refine zr_imul h dX10_partnersAt_45 ?_
    refine zr_iload_n h dX10_partnersAt_46 2 rfl rfl ?_
    refine zr_iadd h dX10_partnersAt_47 ?_
    refine zr_iconst (v := (zI 3)) h dX10_partnersAt_48 rfl ?_
    refine zr_imul h dX10_partnersAt_49 ?_
    refine zr_goto (tgt := 54) h dX10_partnersAt_50 (by decide) ?_
    have hk := zOk_some hk
    exact zr_iret h dX10_partnersAt_54 ⟨rfl, _, rfl, hk⟩
noncomputable def f_X10_partnersAt_28 (M : ZMem) (x0 : Int32) (x1 : Int32) (x2 : Int32) : Option Int32 := f_X10_partnersAt_29 M x0 x1 x2 (zI 0)
set_option maxRecDepth 100000 in
set_option maxHeartbeats 4000000 in
theorem w_X10_partnersAt_28 {ly : List ZEnt} {E : ZEv} {G : ZG} {K : Int32 → Prop} (M : ZMem) (h : zRu ly E G (zRp M K) cX10_partnersAt RX10 4 (some .int) 0) (x0 : Int32) (x1 : Int32) (x2 : Int32) (hk : zOk (f_X10_partnersAt_28 M x0 x1 x2) K) : G M 28 [(0, .int x0), (1, .int x1), (2, .int x2)] [] := by
  unfold f_X10_partnersAt_28 at hk
  refine zr_iconst (v := (zI 0)) h dX10_partnersAt_28 rfl ?_
  exact w_X10_partnersAt_29 M h x0 x1 x2 (zI 0) hk
noncomputable def f_X10_partnersAt (M : ZMem) (x0 : Int32) (x1 : Int32) (x2 : Int32) : Option Int32 := if x0 < (zI 0) then f_X10_partnersAt_28 M x0 x1 x2 else if x1 ≤ x0 then f_X10_partnersAt_28 M x0 x1 x2 else if (zI 4) ≤ x1 then f_X10_partnersAt_28 M x0 x1 x2 else if x2 < (zI 0) then f_X10_partnersAt_28 M x0 x1 x2 else if (zI 120) ≤ x2 then f_X10_partnersAt_28 M x0 x1 x2 else f_X10_partnersAt_29 M x0 x1 x2 (zI 1)
set_option maxRecDepth 100000 in
set_option maxHeartbeats 4000000 in
theorem c_X10_partnersAt {ly : List ZEnt} (E : ZEv) (M : ZMem) (x0 : Int32) (x1 : Int32) (x2 : Int32) (K : Int32 → Prop) (hk : zOk (f_X10_partnersAt M x0 x1 x2) K) : zCon ly E yX10_partnersAt cX10_partnersAt 4 (some .int) 0 [.int x0, .int x1, .int x2] M (zRp M K) := by
  refine zcon_of (L0 := [(0, .int x0), (1, .int x1), (2, .int x2)]) (by decide) rfl (Nat.le_of_ble_eq_true rfl) (fun G h => ?_)
  have h : zRu ly E G (zRp M K) cX10_partnersAt RX10 4 (some .int) 0 := h
  unfold f_X10_partnersAt at hk
  refine zr_iload_n h dX10_partnersAt_0 0 rfl rfl ?_
  refine zr_if_lt (tgt := 28) h dX10_partnersAt_1 (by decide) (fun c => ?_) (fun c => ?_)
  · have hk := zOk_t c hk
    exact w_X10_partnersAt_28 M h x0 x1 x2 hk
  · have hk := zOk_f c hk
    refine zr_iload_n h dX10_partnersAt_4 0 rfl rfl ?_
    refine zr_iload_n h dX10_partnersAt_5 1 rfl rfl ?_
    refine zr_icmp_ge (tgt := 28) h dX10_partnersAt_6 (by decide) (fun c => ?_) (fun c => ?_)
    · have hk := zOk_t c hk
      exact w_X10_partnersAt_28 M h x0 x1 x2 hk
    · have hk := zOk_f c hk
      refine zr_iload_n h dX10_partnersAt_9 1 rfl rfl ?_
      refine zr_iconst (v := (zI 4)) h dX10_partnersAt_10 rfl ?_
      refine zr_icmp_ge (tgt := 28) h dX10_partnersAt_11 (by decide) (fun c => ?_) (fun c => ?_)
      · have hk := zOk_t c hk
        exact w_X10_partnersAt_28 M h x0 x1 x2 hk
      · have hk := zOk_f c hk
        refine zr_iload_n h dX10_partnersAt_14 2 rfl rfl ?_
        refine zr_if_lt (tgt := 28) h dX10_partnersAt_15 (by decide) (fun c => ?_) (fun c => ?_)
        · have hk := zOk_t c hk
          exact w_X10_partnersAt_28 M h x0 x1 x2 hk
        · have hk := zOk_f c hk
          refine zr_iload_n h dX10_partnersAt_18 2 rfl rfl ?_
          refine zr_bipush (v := (zI 120)) h dX10_partnersAt_19 (by decide) ?_
          refine zr_icmp_ge (tgt := 28) h dX10_partnersAt_21 (by decide) (fun c => ?_) (fun c => ?_)
          · have hk := zOk_t c hk
            exact w_X10_partnersAt_28 M h x0 x1 x2 hk
          · have hk := zOk_f c hk
            refine zr_iconst (v := (zI 1)) h dX10_partnersAt_24 rfl ?_
            refine zr_goto (tgt := 29) h dX10_partnersAt_25 (by decide) ?_
            exact w_X10_partnersAt_29 M h x0 x1 x2 (zI 1) hk
theorem dX10_pairWords_0 : decode cX10_pairWords 0 = .ok (.iconst 0, 1) := by decide +kernel
theorem dX10_pairWords_1 : decode cX10_pairWords 1 = .ok (.istore_n 3, 1) := by decide +kernel
theorem dX10_pairWords_2 : decode cX10_pairWords 2 = .ok (.iload_n 3, 1) := by decide +kernel
theorem dX10_pairWords_3 : decode cX10_pairWords 3 = .ok (.aload_n 0, 1) := by decide +kernel
theorem dX10_pairWords_4 : decode cX10_pairWords 4 = .ok (.getfield 33, 3) := by decide +kernel
theorem dX10_pairWords_7 : decode cX10_pairWords 7 = .ok (.invokevirtual 60, 3) := by decide +kernel
theorem dX10_pairWords_10 : decode cX10_pairWords 10 = .ok (.if_icmp .ge 96, 3) := by decide +kernel
theorem dX10_pairWords_13 : decode cX10_pairWords 13 = .ok (.aload_n 0, 1) := by decide +kernel
theorem dX10_pairWords_14 : decode cX10_pairWords 14 = .ok (.getfield 15, 3) := by decide +kernel
theorem dX10_pairWords_17 : decode cX10_pairWords 17 = .ok (.iconst 0, 1) := by decide +kernel
theorem dX10_pairWords_18 : decode cX10_pairWords 18 = .ok (.iload_n 1, 1) := by decide +kernel
theorem dX10_pairWords_19 : decode cX10_pairWords 19 = .ok (.invokestatic 75, 3) := by decide +kernel
theorem dX10_pairWords_22 : decode cX10_pairWords 22 = .ok (.iload_n 3, 1) := by decide +kernel
theorem dX10_pairWords_23 : decode cX10_pairWords 23 = .ok (.invokestatic 91, 3) := by decide +kernel
theorem dX10_pairWords_26 : decode cX10_pairWords 26 = .ok (.ifCond .eq 74, 3) := by decide +kernel
theorem dX10_pairWords_29 : decode cX10_pairWords 29 = .ok (.iconst 0, 1) := by decide +kernel
theorem dX10_pairWords_30 : decode cX10_pairWords 30 = .ok (.istore 4, 2) := by decide +kernel
theorem dX10_pairWords_32 : decode cX10_pairWords 32 = .ok (.iload 4, 2) := by decide +kernel
theorem dX10_pairWords_34 : decode cX10_pairWords 34 = .ok (.aload_n 0, 1) := by decide +kernel
theorem dX10_pairWords_35 : decode cX10_pairWords 35 = .ok (.getfield 33, 3) := by decide +kernel
theorem dX10_pairWords_38 : decode cX10_pairWords 38 = .ok (.invokevirtual 60, 3) := by decide +kernel
theorem dX10_pairWords_41 : decode cX10_pairWords 41 = .ok (.if_icmp .ge 59, 3) := by decide +kernel
theorem dX10_pairWords_44 : decode cX10_pairWords 44 = .ok (.iload_n 3, 1) := by decide +kernel
theorem dX10_pairWords_45 : decode cX10_pairWords 45 = .ok (.iload 4, 2) := by decide +kernel
theorem dX10_pairWords_47 : decode cX10_pairWords 47 = .ok (.if_icmp .eq 47, 3) := by decide +kernel
theorem dX10_pairWords_50 : decode cX10_pairWords 50 = .ok (.aload_n 0, 1) := by decide +kernel
theorem dX10_pairWords_51 : decode cX10_pairWords 51 = .ok (.getfield 15, 3) := by decide +kernel
theorem dX10_pairWords_54 : decode cX10_pairWords 54 = .ok (.iconst 0, 1) := by decide +kernel
theorem dX10_pairWords_55 : decode cX10_pairWords 55 = .ok (.iload_n 2, 1) := by decide +kernel
theorem dX10_pairWords_56 : decode cX10_pairWords 56 = .ok (.invokestatic 75, 3) := by decide +kernel
theorem dX10_pairWords_59 : decode cX10_pairWords 59 = .ok (.iload 4, 2) := by decide +kernel
theorem dX10_pairWords_61 : decode cX10_pairWords 61 = .ok (.invokestatic 91, 3) := by decide +kernel
theorem dX10_pairWords_64 : decode cX10_pairWords 64 = .ok (.ifCond .eq 30, 3) := by decide +kernel
theorem dX10_pairWords_67 : decode cX10_pairWords 67 = .ok (.aload_n 0, 1) := by decide +kernel
theorem dX10_pairWords_68 : decode cX10_pairWords 68 = .ok (.iload_n 1, 1) := by decide +kernel
theorem dX10_pairWords_69 : decode cX10_pairWords 69 = .ok (.iload_n 3, 1) := by decide +kernel
theorem dX10_pairWords_70 : decode cX10_pairWords 70 = .ok (.iload_n 2, 1) := by decide +kernel
theorem dX10_pairWords_71 : decode cX10_pairWords 71 = .ok (.iload 4, 2) := by decide +kernel
theorem dX10_pairWords_73 : decode cX10_pairWords 73 = .ok (.invokevirtual 71, 3) := by decide +kernel
theorem dX10_pairWords_76 : decode cX10_pairWords 76 = .ok (.ifCond .eq 18, 3) := by decide +kernel
theorem dX10_pairWords_79 : decode cX10_pairWords 79 = .ok (.aload_n 0, 1) := by decide +kernel
theorem dX10_pairWords_80 : decode cX10_pairWords 80 = .ok (.getfield 9, 3) := by decide +kernel
theorem dX10_pairWords_83 : decode cX10_pairWords 83 = .ok (.iload_n 1, 1) := by decide +kernel
theorem dX10_pairWords_84 : decode cX10_pairWords 84 = .ok (.iload_n 2, 1) := by decide +kernel
theorem dX10_pairWords_85 : decode cX10_pairWords 85 = .ok (.iload_n 3, 1) := by decide +kernel
theorem dX10_pairWords_86 : decode cX10_pairWords 86 = .ok (.invokestatic 95, 3) := by decide +kernel
theorem dX10_pairWords_89 : decode cX10_pairWords 89 = .ok (.iload 4, 2) := by decide +kernel
theorem dX10_pairWords_91 : decode cX10_pairWords 91 = .ok (.invokestatic 79, 3) := by decide +kernel
theorem dX10_pairWords_94 : decode cX10_pairWords 94 = .ok (.iinc 4 1, 3) := by decide +kernel
theorem dX10_pairWords_97 : decode cX10_pairWords 97 = .ok (.goto (-65), 3) := by decide +kernel
theorem dX10_pairWords_100 : decode cX10_pairWords 100 = .ok (.iinc 3 1, 3) := by decide +kernel
theorem dX10_pairWords_103 : decode cX10_pairWords 103 = .ok (.goto (-101), 3) := by decide +kernel
theorem dX10_pairWords_106 : decode cX10_pairWords 106 = .ok (.return_, 1) := by decide +kernel
noncomputable def f_X10_pairWords_L32 (x1 : Int32) (x2 : Int32) (x3 : Int32) (s : (ZMem × Int32)) : Option ((ZMem × Int32) ⊕ (ZMem)) := zbind (f_X2_held s.1) (fun r_38 => if r_38 ≤ s.2 then some (.inr s.1) else if x3 = s.2 then zbnd (s.2 + (zI 1)) (fun x4_94 => some (.inl (s.1, x4_94))) else zbind (f_X10_openAt s.1 (zI 0) x2) (fun r_56 => zbind (f_X10_hasBit 61 48 s.1 r_56 s.2) (fun r_61 => if r_61 = (zI 0) then zbnd (s.2 + (zI 1)) (fun x4_94 => some (.inl (s.1, x4_94))) else zbind (f_X10_goTogether s.1 x1 x3 x2 s.2) (fun r_73 => if r_73 = (zI 0) then zbnd (s.2 + (zI 1)) (fun x4_94 => some (.inl (s.1, x4_94))) else zbind (f_X10_partnersAt s.1 x1 x2 x3) (fun r_86 => zbind (f_X10_putBit 60 2160 s.1 r_86 s.2) (fun M_91 => zbnd (s.2 + (zI 1)) (fun x4_94 => some (.inl (M_91, x4_94)))))))))
set_option maxRecDepth 100000 in
set_option maxHeartbeats 4000000 in
theorem w_X10_pairWords_L32 {E : ZEv} {G : ZG} {K : ZMem → Prop} (h : zRu lyC E G (zRv K) cX10_pairWords RX10 5 none 3) (x1 : Int32) (x2 : Int32) (x3 : Int32) (s : (ZMem × Int32)) (hk : zOk (zloop (f_X10_pairWords_L32 x1 x2 x3) s) (fun e => G e 100 [(0, zrf E 59), (1, .int x1), (2, .int x2), (3, .int x3)] [])) : G s.1 32 [(0, zrf E 59), (1, .int x1), (2, .int x2), (3, .int x3), (4, .int s.2)] [] := by
  refine zloop_walk (P := fun s => G s.1 32 [(0, zrf E 59), (1, .int x1), (2, .int x2), (3, .int x3), (4, .int s.2)] []) hk (fun s hk => ?_)
  unfold f_X10_pairWords_L32 at hk
  refine zr_iload h dX10_pairWords_32 4 rfl ?_
  refine zr_aload_n h dX10_pairWords_34 0 rfl rfl ?_
  refine zr_getR h zfo_X10_33 lC_59 rfl dX10_pairWords_35 ?_
  refine zr_callVp h lC_34 zcw_X10_60 (by decide) (c_X2_held E s.1 _ (zOk_bind hk)) rfl rfl (Nat.le_of_ble_eq_true rfl) dX10_pairWords_38 (fun r_38 hk => ?_)
  refine zr_icmp_ge (tgt := 100) h dX10_pairWords_41 (by decide) (fun c => ?_) (fun c => ?_)
  · have hk := zOk_t c hk
    have hk := zOk_some hk
    exact zr_weak h [0, 1, 2, 3] rfl hk
  · have hk := zOk_f c hk
    refine zr_iload_n h dX10_pairWords_44 3 rfl rfl ?_
    refine zr_iload h dX10_pairWords_45 4 rfl ?_
    refine zr_icmp_eq (tgt := 94) h dX10_pairWords_47 (by decide) (fun c => ?_) (fun c => ?_)
    · have hk := zOk_t c hk
      obtain ⟨x4_94, ex⟩ : ∃ y : Int32, y = s.2 + (zI 1) := ⟨_, rfl⟩
      have hk := zOk_bnd ex hk
      refine zr_iinc (v := x4_94) (L' := [(0, zrf E 59), (1, .int x1), (2, .int x2), (3, .int x3), (4, .int x4_94)]) h 4 [1, 2, 3, 4, 0] dX10_pairWords_94 rfl (by rw [ex]; rfl) (by decide) rfl ?_
      refine zr_goto (tgt := 32) h dX10_pairWords_97 (by decide) ?_
      have hk := zOk_some hk
      exact zr_weak h [0, 1, 2, 3, 4] rfl hk
    · have hk := zOk_f c hk
      refine zr_aload_n h dX10_pairWords_50 0 rfl rfl ?_
      refine zr_getR h zfo_X10_15 lC_59 rfl dX10_pairWords_51 ?_
      refine zr_iconst (v := (zI 0)) h dX10_pairWords_54 rfl ?_
      refine zr_iload_n h dX10_pairWords_55 2 rfl rfl ?_
      refine zr_callSp h zcw_X10_75 (by decide) (c_X10_openAt E s.1 (zI 0) x2 _ (zOk_bind hk)) rfl rfl (Nat.le_of_ble_eq_true rfl) dX10_pairWords_56 (fun r_56 hk => ?_)
      refine zr_iload h dX10_pairWords_59 4 rfl ?_
      refine zr_callSp h zcw_X10_91 (by decide) (c_X10_hasBit E 61 48 lC_61 s.1 r_56 s.2 _ (zOk_bind hk)) rfl rfl (Nat.le_of_ble_eq_true rfl) dX10_pairWords_61 (fun r_61 hk => ?_)
      refine zr_if_eq (tgt := 94) h dX10_pairWords_64 (by decide) (fun c => ?_) (fun c => ?_)
      · have hk := zOk_t c hk
        obtain ⟨x4_94, ex⟩ : ∃ y : Int32, y = s.2 + (zI 1) := ⟨_, rfl⟩
        have hk := zOk_bnd ex hk
        refine zr_iinc (v := x4_94) (L' := [(0, zrf E 59), (1, .int x1), (2, .int x2), (3, .int x3), (4, .int x4_94)]) h 4 [1, 2, 3, 4, 0] dX10_pairWords_94 rfl (by rw [ex]; rfl) (by decide) rfl ?_
        refine zr_goto (tgt := 32) h dX10_pairWords_97 (by decide) ?_
        have hk := zOk_some hk
        exact zr_weak h [0, 1, 2, 3, 4] rfl hk
      · have hk := zOk_f c hk
        refine zr_aload_n h dX10_pairWords_67 0 rfl rfl ?_
        refine zr_iload_n h dX10_pairWords_68 1 rfl rfl ?_
        refine zr_iload_n h dX10_pairWords_69 3 rfl rfl ?_
        refine zr_iload_n h dX10_pairWords_70 2 rfl rfl ?_
        refine zr_iload h dX10_pairWords_71 4 rfl ?_
        refine zr_callVp h lC_59 zcw_X10_71 (by decide) (c_X10_goTogether E s.1 x1 x3 x2 s.2 _ (zOk_bind hk)) rfl rfl (Nat.le_of_ble_eq_true rfl) dX10_pairWords_73 (fun r_73 hk => ?_)
        refine zr_if_eq (tgt := 94) h dX10_pairWords_76 (by decide) (fun c => ?_) (fun c => ?_)
        · have hk := zOk_t c hk
          obtain ⟨x4_94, ex⟩ : ∃ y : Int32, y = s.2 + (zI 1) := ⟨_, rfl⟩
          have hk := zOk_bnd ex hk
          refine zr_iinc (v := x4_94) (L' := [(0, zrf E 59), (1, .int x1), (2, .int x2), (3, .int x3), (4, .int x4_94)]) h 4 [1, 2, 3, 4, 0] dX10_pairWords_94 rfl (by rw [ex]; rfl) (by decide) rfl ?_
          refine zr_goto (tgt := 32) h dX10_pairWords_97 (by decide) ?_
          have hk := zOk_some hk
          exact zr_weak h [0, 1, 2, 3, 4] rfl hk
        · have hk := zOk_f c hk
          refine zr_aload_n h dX10_pairWords_79 0 rfl rfl ?_
          refine zr_getR h zfo_X10_9 lC_59 rfl dX10_pairWords_80 ?_
          refine zr_iload_n h dX10_pairWords_83 1 rfl rfl ?_
          refine zr_iload_n h dX10_pairWords_84 2 rfl rfl ?_
          refine zr_iload_n h dX10_pairWords_85 3 rfl rfl ?_
          refine zr_callSp h zcw_X10_95 (by decide) (c_X10_partnersAt E s.1 x1 x2 x3 _ (zOk_bind hk)) rfl rfl (Nat.le_of_ble_eq_true rfl) dX10_pairWords_86 (fun r_86 hk => ?_)
          refine zr_iload h dX10_pairWords_89 4 rfl ?_
          refine zr_callSv h zcw_X10_79 (by decide) (c_X10_putBit E 60 2160 lC_60 s.1 r_86 s.2 _ (zOk_bind hk)) rfl rfl (Nat.le_of_ble_eq_true rfl) dX10_pairWords_91 (fun M_91 hk => ?_)
          obtain ⟨x4_94, ex⟩ : ∃ y : Int32, y = s.2 + (zI 1) := ⟨_, rfl⟩
          have hk := zOk_bnd ex hk
          refine zr_iinc (v := x4_94) (L' := [(0, zrf E 59), (1, .int x1), (2, .int x2), (3, .int x3), (4, .int x4_94)]) h 4 [1, 2, 3, 4, 0] dX10_pairWords_94 rfl (by rw [ex]; rfl) (by decide) rfl ?_
          refine zr_goto (tgt := 32) h dX10_pairWords_97 (by decide) ?_
          have hk := zOk_some hk
          exact zr_weak h [0, 1, 2, 3, 4] rfl hk
noncomputable def f_X10_pairWords_L2 (x1 : Int32) (x2 : Int32) (s : (ZMem × Int32)) : Option ((ZMem × Int32) ⊕ (ZMem)) := zbind (f_X2_held s.1) (fun r_7 => if r_7 ≤ s.2 then some (.inr s.1) else zbind (f_X10_openAt s.1 (zI 0) x1) (fun r_19 => zbind (f_X10_hasBit 61 48 s.1 r_19 s.2) (fun r_23 => if r_23 = (zI 0) then zbnd (s.2 + (zI 1)) (fun x3_100 => some (.inl (s.1, x3_100))) else zbind (zloop (f_X10_pairWords_L32 x1 x2 s.2) (s.1, (zI 0))) (fun e32 => zbnd (s.2 + (zI 1)) (fun x3_100 => some (.inl (e32, x3_100)))))))
set_option maxRecDepth 100000 in
set_option maxHeartbeats 4000000 in
theorem w_X10_pairWords_L2 {E : ZEv} {G : ZG} {K : ZMem → Prop} (h : zRu lyC E G (zRv K) cX10_pairWords RX10 5 none 3) (x1 : Int32) (x2 : Int32) (s : (ZMem × Int32)) (hk : zOk (zloop (f_X10_pairWords_L2 x1 x2) s) (fun e => G e 106 [] [])) : G s.1 2 [(0, zrf E 59), (1, .int x1), (2, .int x2), (3, .int s.2)] [] := by
  refine zloop_walk (P := fun s => G s.1 2 [(0, zrf E 59), (1, .int x1), (2, .int x2), (3, .int s.2)] []) hk (fun s hk => ?_)
  unfold f_X10_pairWords_L2 at hk
  refine zr_iload_n h dX10_pairWords_2 3 rfl rfl ?_
  refine zr_aload_n h dX10_pairWords_3 0 rfl rfl ?_
  refine zr_getR h zfo_X10_33 lC_59 rfl dX10_pairWords_4 ?_
  refine zr_callVp h lC_34 zcw_X10_60 (by decide) (c_X2_held E s.1 _ (zOk_bind hk)) rfl rfl (Nat.le_of_ble_eq_true rfl) dX10_pairWords_7 (fun r_7 hk => ?_)
  refine zr_icmp_ge (tgt := 106) h dX10_pairWords_10 (by decide) (fun c => ?_) (fun c => ?_)
  · have hk := zOk_t c hk
    have hk := zOk_some hk
    exact zr_weak h [] rfl hk
  · have hk := zOk_f c hk
    refine zr_aload_n h dX10_pairWords_13 0 rfl rfl ?_
    refine zr_getR h zfo_X10_15 lC_59 rfl dX10_pairWords_14 ?_
    refine zr_iconst (v := (zI 0)) h dX10_pairWords_17 rfl ?_
    refine zr_iload_n h dX10_pairWords_18 1 rfl rfl ?_
    refine zr_callSp h zcw_X10_75 (by decide) (c_X10_openAt E s.1 (zI 0) x1 _ (zOk_bind hk)) rfl rfl (Nat.le_of_ble_eq_true rfl) dX10_pairWords_19 (fun r_19 hk => ?_)
    refine zr_iload_n h dX10_pairWords_22 3 rfl rfl ?_
    refine zr_callSp h zcw_X10_91 (by decide) (c_X10_hasBit E 61 48 lC_61 s.1 r_19 s.2 _ (zOk_bind hk)) rfl rfl (Nat.le_of_ble_eq_true rfl) dX10_pairWords_23 (fun r_23 hk => ?_)
    refine zr_if_eq (tgt := 100) h dX10_pairWords_26 (by decide) (fun c => ?_) (fun c => ?_)
    · have hk := zOk_t c hk
      obtain ⟨x3_100, ex⟩ : ∃ y : Int32, y = s.2 + (zI 1) := ⟨_, rfl⟩
      have hk := zOk_bnd ex hk
      refine zr_iinc (v := x3_100) (L' := [(0, zrf E 59), (1, .int x1), (2, .int x2), (3, .int x3_100)]) h 3 [1, 2, 3, 0] dX10_pairWords_100 rfl (by rw [ex]; rfl) (by decide) rfl ?_
      refine zr_goto (tgt := 2) h dX10_pairWords_103 (by decide) ?_
      have hk := zOk_some hk
      exact zr_weak h [0, 1, 2, 3] rfl hk
    · have hk := zOk_f c hk
      refine zr_iconst (v := (zI 0)) h dX10_pairWords_29 rfl ?_
      refine zr_istore (L' := [(0, zrf E 59), (1, .int x1), (2, .int x2), (3, .int s.2), (4, .int (zI 0))]) h [1, 2, 3, 4, 0] dX10_pairWords_30 (by decide) rfl ?_
      refine w_X10_pairWords_L32 h x1 x2 s.2 (s.1, (zI 0)) (zOk_mono (zOk_bind hk) (fun e32 hk => ?_))
      obtain ⟨x3_100, ex⟩ : ∃ y : Int32, y = s.2 + (zI 1) := ⟨_, rfl⟩
      have hk := zOk_bnd ex hk
      refine zr_iinc (v := x3_100) (L' := [(0, zrf E 59), (1, .int x1), (2, .int x2), (3, .int x3_100)]) h 3 [1, 2, 3, 0] dX10_pairWords_100 rfl (by rw [ex]; rfl) (by decide) rfl ?_
      refine zr_goto (tgt := 2) h dX10_pairWords_103 (by decide) ?_
      have hk := zOk_some hk
      exact zr_weak h [0, 1, 2, 3] rfl hk
noncomputable def f_X10_pairWords (M : ZMem) (x1 : Int32) (x2 : Int32) : Option ZMem := zbind (zloop (f_X10_pairWords_L2 x1 x2) (M, (zI 0))) (fun e2 => some e2)
set_option maxRecDepth 100000 in
set_option maxHeartbeats 4000000 in
theorem c_X10_pairWords (E : ZEv) (M : ZMem) (x1 : Int32) (x2 : Int32) (K : ZMem → Prop) (hk : zOk (f_X10_pairWords M x1 x2) K) : zCon lyC E yX10_pairWords cX10_pairWords 5 none 3 [zrf E 59, .int x1, .int x2] M (zRv K) := by
  refine zcon_of (L0 := [(0, zrf E 59), (1, .int x1), (2, .int x2)]) (by decide) rfl (Nat.le_of_ble_eq_true rfl) (fun G h => ?_)
  have h : zRu lyC E G (zRv K) cX10_pairWords RX10 5 none 3 := h
  unfold f_X10_pairWords at hk
  refine zr_iconst (v := (zI 0)) h dX10_pairWords_0 rfl ?_
  refine zr_istore_n (L' := [(0, zrf E 59), (1, .int x1), (2, .int x2), (3, .int (zI 0))]) h [1, 2, 3, 0] dX10_pairWords_1 rfl (by decide) rfl ?_
  refine w_X10_pairWords_L2 h x1 x2 (M, (zI 0)) (zOk_mono (zOk_bind hk) (fun e2 hk => ?_))
  have hk := zOk_some hk
  exact zr_vret h dX10_pairWords_106 ⟨rfl, hk⟩
theorem dX10_countLast_0 : decode cX10_countLast 0 = .ok (.iconst 0, 1) := by decide +kernel
theorem dX10_countLast_1 : decode cX10_countLast 1 = .ok (.istore_n 2, 1) := by decide +kernel
theorem dX10_countLast_2 : decode cX10_countLast 2 = .ok (.iconst 0, 1) := by decide +kernel
theorem dX10_countLast_3 : decode cX10_countLast 3 = .ok (.istore_n 3, 1) := by decide +kernel
theorem dX10_countLast_4 : decode cX10_countLast 4 = .ok (.iload_n 3, 1) := by decide +kernel
theorem dX10_countLast_5 : decode cX10_countLast 5 = .ok (.aload_n 0, 1) := by decide +kernel
theorem dX10_countLast_6 : decode cX10_countLast 6 = .ok (.getfield 33, 3) := by decide +kernel
theorem dX10_countLast_9 : decode cX10_countLast 9 = .ok (.invokevirtual 60, 3) := by decide +kernel
theorem dX10_countLast_12 : decode cX10_countLast 12 = .ok (.if_icmp .ge 60, 3) := by decide +kernel
theorem dX10_countLast_15 : decode cX10_countLast 15 = .ok (.aload_n 0, 1) := by decide +kernel
theorem dX10_countLast_16 : decode cX10_countLast 16 = .ok (.getfield 15, 3) := by decide +kernel
theorem dX10_countLast_19 : decode cX10_countLast 19 = .ok (.iload_n 1, 1) := by decide +kernel
theorem dX10_countLast_20 : decode cX10_countLast 20 = .ok (.iload_n 1, 1) := by decide +kernel
theorem dX10_countLast_21 : decode cX10_countLast 21 = .ok (.invokestatic 75, 3) := by decide +kernel
theorem dX10_countLast_24 : decode cX10_countLast 24 = .ok (.iload_n 3, 1) := by decide +kernel
theorem dX10_countLast_25 : decode cX10_countLast 25 = .ok (.invokestatic 91, 3) := by decide +kernel
theorem dX10_countLast_28 : decode cX10_countLast 28 = .ok (.ifCond .eq 38, 3) := by decide +kernel
theorem dX10_countLast_31 : decode cX10_countLast 31 = .ok (.aload_n 0, 1) := by decide +kernel
theorem dX10_countLast_32 : decode cX10_countLast 32 = .ok (.getfield 50, 3) := by decide +kernel
theorem dX10_countLast_35 : decode cX10_countLast 35 = .ok (.ifCond .ne 28, 3) := by decide +kernel
theorem dX10_countLast_38 : decode cX10_countLast 38 = .ok (.iload_n 2, 1) := by decide +kernel
theorem dX10_countLast_39 : decode cX10_countLast 39 = .ok (.ifCond .ne 24, 3) := by decide +kernel
theorem dX10_countLast_42 : decode cX10_countLast 42 = .ok (.aload_n 0, 1) := by decide +kernel
theorem dX10_countLast_43 : decode cX10_countLast 43 = .ok (.getfield 18, 3) := by decide +kernel
theorem dX10_countLast_46 : decode cX10_countLast 46 = .ok (.iload_n 1, 1) := by decide +kernel
theorem dX10_countLast_47 : decode cX10_countLast 47 = .ok (.iload_n 3, 1) := by decide +kernel
theorem dX10_countLast_48 : decode cX10_countLast 48 = .ok (.iastore, 1) := by decide +kernel
theorem dX10_countLast_49 : decode cX10_countLast 49 = .ok (.aload_n 0, 1) := by decide +kernel
theorem dX10_countLast_50 : decode cX10_countLast 50 = .ok (.getfield 18, 3) := by decide +kernel
theorem dX10_countLast_53 : decode cX10_countLast 53 = .ok (.iconst 0, 1) := by decide +kernel
theorem dX10_countLast_54 : decode cX10_countLast 54 = .ok (.aload_n 0, 1) := by decide +kernel
theorem dX10_countLast_55 : decode cX10_countLast 55 = .ok (.getfield 22, 3) := by decide +kernel
theorem dX10_countLast_58 : decode cX10_countLast 58 = .ok (.iconst 0, 1) := by decide +kernel
theorem dX10_countLast_59 : decode cX10_countLast 59 = .ok (.iconst 4, 1) := by decide +kernel
theorem dX10_countLast_60 : decode cX10_countLast 60 = .ok (.invokestatic 129, 3) := by decide +kernel
theorem dX10_countLast_63 : decode cX10_countLast 63 = .ok (.iinc 2 1, 3) := by decide +kernel
theorem dX10_countLast_66 : decode cX10_countLast 66 = .ok (.iinc 3 1, 3) := by decide +kernel
theorem dX10_countLast_69 : decode cX10_countLast 69 = .ok (.goto (-65), 3) := by decide +kernel
theorem dX10_countLast_72 : decode cX10_countLast 72 = .ok (.aload_n 0, 1) := by decide +kernel
theorem dX10_countLast_73 : decode cX10_countLast 73 = .ok (.sipush 999, 3) := by decide +kernel
theorem dX10_countLast_76 : decode cX10_countLast 76 = .ok (.aload_n 0, 1) := by decide +kernel
theorem dX10_countLast_77 : decode cX10_countLast 77 = .ok (.getfield 50, 3) := by decide +kernel
theorem dX10_countLast_80 : decode cX10_countLast 80 = .ok (.iload_n 2, 1) := by decide +kernel
theorem dX10_countLast_81 : decode cX10_countLast 81 = .ok (.iadd, 1) := by decide +kernel
theorem dX10_countLast_82 : decode cX10_countLast 82 = .ok (.invokestatic 135, 3) := by decide +kernel
theorem dX10_countLast_85 : decode cX10_countLast 85 = .ok (.putfield 50, 3) := by decide +kernel
theorem dX10_countLast_88 : decode cX10_countLast 88 = .ok (.return_, 1) := by decide +kernel
noncomputable def f_X10_countLast_L4 (x1 : Int32) (s : (ZMem × Int32 × Int32)) : Option ((ZMem × Int32 × Int32) ⊕ (ZMem × Int32)) := zbind (f_X2_held s.1) (fun r_9 => if r_9 ≤ s.2.2 then some (.inr (s.1, s.2.1)) else zbind (f_X10_openAt s.1 x1 x1) (fun r_21 => zbind (f_X10_hasBit 61 48 s.1 r_21 s.2.2) (fun r_25 => if r_25 = (zI 0) then zbnd (s.2.2 + (zI 1)) (fun x3_66 => some (.inl (s.1, s.2.1, x3_66))) else if (s.1.1 59 9) = (zI 0) then if s.2.1 = (zI 0) then zchk (zin x1 4) (zbnd (zstI s.1 62 (zix x1) s.2.2) (fun M_48 => zchk (zcp (zI 0) (zI 0) (zI 4) 4 4) (zbnd (zstF M_48 63 (va_cpy (M_48.1 62) (M_48.1 63) (zix (zI 0)) (zix (zI 0)) (zix (zI 4)))) (fun M_60 => zbnd (s.2.1 + (zI 1)) (fun x2_63 => zbnd (s.2.2 + (zI 1)) (fun x3_66 => some (.inl (M_60, x2_63, x3_66)))))))) else zbnd (s.2.1 + (zI 1)) (fun x2_63 => zbnd (s.2.2 + (zI 1)) (fun x3_66 => some (.inl (s.1, x2_63, x3_66)))) else zbnd (s.2.1 + (zI 1)) (fun x2_63 => zbnd (s.2.2 + (zI 1)) (fun x3_66 => some (.inl (s.1, x2_63, x3_66)))))))
set_option maxRecDepth 100000 in
set_option maxHeartbeats 4000000 in
theorem w_X10_countLast_L4 {E : ZEv} {G : ZG} {K : ZMem → Prop} (h : zRu lyC E G (zRv K) cX10_countLast RX10 4 none 1) (x1 : Int32) (s : (ZMem × Int32 × Int32)) (hk : zOk (zloop (f_X10_countLast_L4 x1) s) (fun e => G e.1 72 [(0, zrf E 59), (2, .int e.2)] [])) : G s.1 4 [(0, zrf E 59), (1, .int x1), (2, .int s.2.1), (3, .int s.2.2)] [] := by
  refine zloop_walk (P := fun s => G s.1 4 [(0, zrf E 59), (1, .int x1), (2, .int s.2.1), (3, .int s.2.2)] []) hk (fun s hk => ?_)
  unfold f_X10_countLast_L4 at hk
  refine zr_iload_n h dX10_countLast_4 3 rfl rfl ?_
  refine zr_aload_n h dX10_countLast_5 0 rfl rfl ?_
  refine zr_getR h zfo_X10_33 lC_59 rfl dX10_countLast_6 ?_
  refine zr_callVp h lC_34 zcw_X10_60 (by decide) (c_X2_held E s.1 _ (zOk_bind hk)) rfl rfl (Nat.le_of_ble_eq_true rfl) dX10_countLast_9 (fun r_9 hk => ?_)
  refine zr_icmp_ge (tgt := 72) h dX10_countLast_12 (by decide) (fun c => ?_) (fun c => ?_)
  · have hk := zOk_t c hk
    have hk := zOk_some hk
    exact zr_weak h [0, 2] rfl hk
  · have hk := zOk_f c hk
    refine zr_aload_n h dX10_countLast_15 0 rfl rfl ?_
    refine zr_getR h zfo_X10_15 lC_59 rfl dX10_countLast_16 ?_
    refine zr_iload_n h dX10_countLast_19 1 rfl rfl ?_
    refine zr_iload_n h dX10_countLast_20 1 rfl rfl ?_
    refine zr_callSp h zcw_X10_75 (by decide) (c_X10_openAt E s.1 x1 x1 _ (zOk_bind hk)) rfl rfl (Nat.le_of_ble_eq_true rfl) dX10_countLast_21 (fun r_21 hk => ?_)
    refine zr_iload_n h dX10_countLast_24 3 rfl rfl ?_
    refine zr_callSp h zcw_X10_91 (by decide) (c_X10_hasBit E 61 48 lC_61 s.1 r_21 s.2.2 _ (zOk_bind hk)) rfl rfl (Nat.le_of_ble_eq_true rfl) dX10_countLast_25 (fun r_25 hk => ?_)
    refine zr_if_eq (tgt := 66) h dX10_countLast_28 (by decide) (fun c => ?_) (fun c => ?_)
    · have hk := zOk_t c hk
      obtain ⟨x3_66, ex⟩ : ∃ y : Int32, y = s.2.2 + (zI 1) := ⟨_, rfl⟩
      have hk := zOk_bnd ex hk
      refine zr_iinc (v := x3_66) (L' := [(0, zrf E 59), (1, .int x1), (2, .int s.2.1), (3, .int x3_66)]) h 3 [1, 2, 3, 0] dX10_countLast_66 rfl (by rw [ex]; rfl) (by decide) rfl ?_
      refine zr_goto (tgt := 4) h dX10_countLast_69 (by decide) ?_
      have hk := zOk_some hk
      exact zr_weak h [0, 1, 2, 3] rfl hk
    · have hk := zOk_f c hk
      refine zr_aload_n h dX10_countLast_31 0 rfl rfl ?_
      refine zr_getI h zfo_X10_50 lC_59 rfl dX10_countLast_32 ?_
      refine zr_if_ne (tgt := 63) h dX10_countLast_35 (by decide) (fun c => ?_) (fun c => ?_)
      · have hk := zOk_t c hk
        refine zr_iload_n h dX10_countLast_38 2 rfl rfl ?_
        refine zr_if_ne (tgt := 63) h dX10_countLast_39 (by decide) (fun c => ?_) (fun c => ?_)
        · have hk := zOk_t c hk
          refine zr_aload_n h dX10_countLast_42 0 rfl rfl ?_
          refine zr_getR h zfo_X10_18 lC_59 rfl dX10_countLast_43 ?_
          refine zr_iload_n h dX10_countLast_46 1 rfl rfl ?_
          refine zr_iload_n h dX10_countLast_47 3 rfl rfl ?_
          have hb := zOk_chk hk
          have hk := hb.2
          refine zr_iast h lC_62 hb.1 dX10_countLast_48 ?_
          refine zr_mem (fun M_48 eM => ?_)
          have hk := zOk_bnd eM hk
          refine zr_aload_n h dX10_countLast_49 0 rfl rfl ?_
          refine zr_getR h zfo_X10_18 lC_59 rfl dX10_countLast_50 ?_
          refine zr_iconst (v := (zI 0)) h dX10_countLast_53 rfl ?_
          refine zr_aload_n h dX10_countLast_54 0 rfl rfl ?_
          refine zr_getR h zfo_X10_22 lC_59 rfl dX10_countLast_55 ?_
          refine zr_iconst (v := (zI 0)) h dX10_countLast_58 rfl ?_
          refine zr_iconst (v := (zI 4)) h dX10_countLast_59 rfl ?_
          have hb := zOk_chk hk
          have hk := hb.2
          refine zr_copyi h zac_X10_129 lC_62 lC_63 hb.1 (Nat.le_of_ble_eq_true rfl) dX10_countLast_60 ?_
          refine zr_mem (fun M_60 eM => ?_)
          have hk := zOk_bnd eM hk
          obtain ⟨x2_63, ex⟩ : ∃ y : Int32, y = s.2.1 + (zI 1) := ⟨_, rfl⟩
          have hk := zOk_bnd ex hk
          refine zr_iinc (v := x2_63) (L' := [(0, zrf E 59), (1, .int x1), (2, .int x2_63), (3, .int s.2.2)]) h 2 [1, 2, 0, 3] dX10_countLast_63 rfl (by rw [ex]; rfl) (by decide) rfl ?_
          obtain ⟨x3_66, ex⟩ : ∃ y : Int32, y = s.2.2 + (zI 1) := ⟨_, rfl⟩
          have hk := zOk_bnd ex hk
          refine zr_iinc (v := x3_66) (L' := [(0, zrf E 59), (1, .int x1), (2, .int x2_63), (3, .int x3_66)]) h 3 [1, 2, 3, 0] dX10_countLast_66 rfl (by rw [ex]; rfl) (by decide) rfl ?_
          refine zr_goto (tgt := 4) h dX10_countLast_69 (by decide) ?_
          have hk := zOk_some hk
          exact zr_weak h [0, 1, 2, 3] rfl hk
        · have hk := zOk_f c hk
          obtain ⟨x2_63, ex⟩ : ∃ y : Int32, y = s.2.1 + (zI 1) := ⟨_, rfl⟩
          have hk := zOk_bnd ex hk
          refine zr_iinc (v := x2_63) (L' := [(0, zrf E 59), (1, .int x1), (2, .int x2_63), (3, .int s.2.2)]) h 2 [1, 2, 0, 3] dX10_countLast_63 rfl (by rw [ex]; rfl) (by decide) rfl ?_
          obtain ⟨x3_66, ex⟩ : ∃ y : Int32, y = s.2.2 + (zI 1) := ⟨_, rfl⟩
          have hk := zOk_bnd ex hk
          refine zr_iinc (v := x3_66) (L' := [(0, zrf E 59), (1, .int x1), (2, .int x2_63), (3, .int x3_66)]) h 3 [1, 2, 3, 0] dX10_countLast_66 rfl (by rw [ex]; rfl) (by decide) rfl ?_
          refine zr_goto (tgt := 4) h dX10_countLast_69 (by decide) ?_
          have hk := zOk_some hk
          exact zr_weak h [0, 1, 2, 3] rfl hk
      · have hk := zOk_f c hk
        obtain ⟨x2_63, ex⟩ : ∃ y : Int32, y = s.2.1 + (zI 1) := ⟨_, rfl⟩
        have hk := zOk_bnd ex hk
        refine zr_iinc (v := x2_63) (L' := [(0, zrf E 59), (1, .int x1), (2, .int x2_63), (3, .int s.2.2)]) h 2 [1, 2, 0, 3] dX10_countLast_63 rfl (by rw [ex]; rfl) (by decide) rfl ?_
        obtain ⟨x3_66, ex⟩ : ∃ y : Int32, y = s.2.2 + (zI 1) := ⟨_, rfl⟩
        have hk := zOk_bnd ex hk
        refine zr_iinc (v := x3_66) (L' := [(0, zrf E 59), (1, .int x1), (2, .int x2_63), (3, .int x3_66)]) h 3 [1, 2, 3, 0] dX10_countLast_66 rfl (by rw [ex]; rfl) (by decide) rfl ?_
        refine zr_goto (tgt := 4) h dX10_countLast_69 (by decide) ?_
        have hk := zOk_some hk
        exact zr_weak h [0, 1, 2, 3] rfl hk
noncomputable def f_X10_countLast (M : ZMem) (x1 : Int32) : Option ZMem := zbind (zloop (f_X10_countLast_L4 x1) (M, (zI 0), (zI 0))) (fun e4 => zbnd (zstI e4.1 59 9 (if ((e4.1.1 59 9) + e4.2) < (zI 999) then ((e4.1.1 59 9) + e4.2) else (zI 999))) (fun M_85 => some M_85))
set_option maxRecDepth 100000 in
set_option maxHeartbeats 4000000 in
theorem c_X10_countLast (E : ZEv) (M : ZMem) (x1 : Int32) (K : ZMem → Prop) (hk : zOk (f_X10_countLast M x1) K) : zCon lyC E yX10_countLast cX10_countLast 4 none 1 [zrf E 59, .int x1] M (zRv K) := by
  refine zcon_of (L0 := [(0, zrf E 59), (1, .int x1)]) (by decide) rfl (Nat.le_of_ble_eq_true rfl) (fun G h => ?_)
  have h : zRu lyC E G (zRv K) cX10_countLast RX10 4 none 1 := h
  unfold f_X10_countLast at hk
  refine zr_iconst (v := (zI 0)) h dX10_countLast_0 rfl ?_
  refine zr_istore_n (L' := [(0, zrf E 59), (1, .int x1), (2, .int (zI 0))]) h [1, 2, 0] dX10_countLast_1 rfl (by decide) rfl ?_
  refine zr_iconst (v := (zI 0)) h dX10_countLast_2 rfl ?_
  refine zr_istore_n (L' := [(0, zrf E 59), (1, .int x1), (2, .int (zI 0)), (3, .int (zI 0))]) h [1, 2, 3, 0] dX10_countLast_3 rfl (by decide) rfl ?_
  refine w_X10_countLast_L4 h x1 (M, (zI 0), (zI 0)) (zOk_mono (zOk_bind hk) (fun e4 hk => ?_))
  refine zr_aload_n h dX10_countLast_72 0 rfl rfl ?_
  refine zr_sipush (v := (zI 999)) h dX10_countLast_73 (by decide) ?_
  refine zr_aload_n h dX10_countLast_76 0 rfl rfl ?_
  refine zr_getI h zfo_X10_50 lC_59 rfl dX10_countLast_77 ?_
  refine zr_iload_n h dX10_countLast_80 1 rfl rfl ?_
  refine zr_iadd h dX10_countLast_81 ?_
  refine zr_mmin h (zm_66 _ (List.mem_of_getElem? (i := 7) rfl)) (zm_12 _ (List.mem_of_getElem? (i := 11) rfl)) (zm_12 _ (List.mem_of_getElem? (i := 12) rfl)) (zm_12 _ (List.mem_of_getElem? (i := 13) rfl)) (Nat.le_of_ble_eq_true rfl) dX10_countLast_82 ?_
  refine zr_putI h zfp_X10_50 lC_59 rfl dX10_countLast_85 ?_
  refine zr_mem (fun M_85 eM => ?_)
  have hk := zOk_bnd eM hk
  have hk := zOk_some hk
  exact zr_vret h dX10_countLast_88 ⟨rfl, hk⟩
theorem dX10_narrow_0 : decode cX10_narrow 0 = .ok (.iload_n 1, 1) := by decide +kernel
theorem dX10_narrow_1 : decode cX10_narrow 1 = .ok (.iconst 1, 1) := by decide +kernel
theorem dX10_narrow_2 : decode cX10_narrow 2 = .ok (.iadd, 1) := by decide +kernel
theorem dX10_narrow_3 : decode cX10_narrow 3 = .ok (.istore_n 3, 1) := by decide +kernel
theorem dX10_narrow_4 : decode cX10_narrow 4 = .ok (.iload_n 3, 1) := by decide +kernel
theorem dX10_narrow_5 : decode cX10_narrow 5 = .ok (.aload_n 0, 1) := by decide +kernel
theorem dX10_narrow_6 : decode cX10_narrow 6 = .ok (.getfield 29, 3) := by decide +kernel
theorem dX10_narrow_9 : decode cX10_narrow 9 = .ok (.invokevirtual 44, 3) := by decide +kernel
theorem dX10_narrow_12 : decode cX10_narrow 12 = .ok (.if_icmp .ge 126, 3) := by decide +kernel
theorem dX10_narrow_15 : decode cX10_narrow 15 = .ok (.iload_n 1, 1) := by decide +kernel
theorem dX10_narrow_16 : decode cX10_narrow 16 = .ok (.iload_n 3, 1) := by decide +kernel
theorem dX10_narrow_17 : decode cX10_narrow 17 = .ok (.invokestatic 75, 3) := by decide +kernel
theorem dX10_narrow_20 : decode cX10_narrow 20 = .ok (.istore 4, 2) := by decide +kernel
theorem dX10_narrow_22 : decode cX10_narrow 22 = .ok (.iload_n 1, 1) := by decide +kernel
theorem dX10_narrow_23 : decode cX10_narrow 23 = .ok (.iconst 1, 1) := by decide +kernel
theorem dX10_narrow_24 : decode cX10_narrow 24 = .ok (.iadd, 1) := by decide +kernel
theorem dX10_narrow_25 : decode cX10_narrow 25 = .ok (.iload_n 3, 1) := by decide +kernel
theorem dX10_narrow_26 : decode cX10_narrow 26 = .ok (.invokestatic 75, 3) := by decide +kernel
theorem dX10_narrow_29 : decode cX10_narrow 29 = .ok (.istore 5, 2) := by decide +kernel
theorem dX10_narrow_31 : decode cX10_narrow 31 = .ok (.iload_n 1, 1) := by decide +kernel
theorem dX10_narrow_32 : decode cX10_narrow 32 = .ok (.iload_n 3, 1) := by decide +kernel
theorem dX10_narrow_33 : decode cX10_narrow 33 = .ok (.iload_n 2, 1) := by decide +kernel
theorem dX10_narrow_34 : decode cX10_narrow 34 = .ok (.invokestatic 95, 3) := by decide +kernel
theorem dX10_narrow_37 : decode cX10_narrow 37 = .ok (.istore 6, 2) := by decide +kernel
theorem dX10_narrow_39 : decode cX10_narrow 39 = .ok (.iload 4, 2) := by decide +kernel
theorem dX10_narrow_41 : decode cX10_narrow 41 = .ok (.iconst (-1), 1) := by decide +kernel
theorem dX10_narrow_42 : decode cX10_narrow 42 = .ok (.if_icmp .eq 15, 3) := by decide +kernel
theorem dX10_narrow_45 : decode cX10_narrow 45 = .ok (.iload 5, 2) := by decide +kernel
theorem dX10_narrow_47 : decode cX10_narrow 47 = .ok (.iconst (-1), 1) := by decide +kernel
theorem dX10_narrow_48 : decode cX10_narrow 48 = .ok (.if_icmp .eq 9, 3) := by decide +kernel
theorem dX10_narrow_51 : decode cX10_narrow 51 = .ok (.iload 6, 2) := by decide +kernel
theorem dX10_narrow_53 : decode cX10_narrow 53 = .ok (.iconst (-1), 1) := by decide +kernel
theorem dX10_narrow_54 : decode cX10_narrow 54 = .ok (.if_icmp .ne 5, 3) := by decide +kernel
theorem dX10_narrow_57 : decode cX10_narrow 57 = .ok (.iconst 0, 1) := by decide +kernel
theorem dX10_narrow_58 : decode cX10_narrow 58 = .ok (.ireturn, 1) := by decide +kernel
theorem dX10_narrow_59 : decode cX10_narrow 59 = .ok (.lconst 0, 1) := by decide +kernel
theorem dX10_narrow_60 : decode cX10_narrow 60 = .ok (.lstore 7, 2) := by decide +kernel
theorem dX10_narrow_62 : decode cX10_narrow 62 = .ok (.iconst 0, 1) := by decide +kernel
theorem dX10_narrow_63 : decode cX10_narrow 63 = .ok (.istore 9, 2) := by decide +kernel
theorem dX10_narrow_65 : decode cX10_narrow 65 = .ok (.iload 9, 2) := by decide +kernel
theorem dX10_narrow_67 : decode cX10_narrow 67 = .ok (.iconst 3, 1) := by decide +kernel
theorem dX10_narrow_68 : decode cX10_narrow 68 = .ok (.if_icmp .ge 55, 3) := by decide +kernel
theorem dX10_narrow_71 : decode cX10_narrow 71 = .ok (.aload_n 0, 1) := by decide +kernel
theorem dX10_narrow_72 : decode cX10_narrow 72 = .ok (.getfield 15, 3) := by decide +kernel
theorem dX10_narrow_75 : decode cX10_narrow 75 = .ok (.iload 5, 2) := by decide +kernel
theorem dX10_narrow_77 : decode cX10_narrow 77 = .ok (.iload 9, 2) := by decide +kernel
theorem dX10_narrow_79 : decode cX10_narrow 79 = .ok (.iadd, 1) := by decide +kernel
theorem dX10_narrow_80 : decode cX10_narrow 80 = .ok (.aload_n 0, 1) := by decide +kernel
theorem dX10_narrow_81 : decode cX10_narrow 81 = .ok (.getfield 15, 3) := by decide +kernel
theorem dX10_narrow_84 : decode cX10_narrow 84 = .ok (.iload 4, 2) := by decide +kernel
theorem dX10_narrow_86 : decode cX10_narrow 86 = .ok (.iload 9, 2) := by decide +kernel
theorem dX10_narrow_88 : decode cX10_narrow 88 = .ok (.iadd, 1) := by decide +kernel
theorem dX10_narrow_89 : decode cX10_narrow 89 = .ok (.laload, 1) := by decide +kernel
theorem dX10_narrow_90 : decode cX10_narrow 90 = .ok (.aload_n 0, 1) := by decide +kernel
theorem dX10_narrow_91 : decode cX10_narrow 91 = .ok (.getfield 9, 3) := by decide +kernel
theorem dX10_narrow_94 : decode cX10_narrow 94 = .ok (.iload 6, 2) := by decide +kernel
theorem dX10_narrow_96 : decode cX10_narrow 96 = .ok (.iload 9, 2) := by decide +kernel
theorem dX10_narrow_98 : decode cX10_narrow 98 = .ok (.iadd, 1) := by decide +kernel
theorem dX10_narrow_99 : decode cX10_narrow 99 = .ok (.laload, 1) := by decide +kernel
theorem dX10_narrow_100 : decode cX10_narrow 100 = .ok (.land, 1) := by decide +kernel
theorem dX10_narrow_101 : decode cX10_narrow 101 = .ok (.lastore, 1) := by decide +kernel
theorem dX10_narrow_102 : decode cX10_narrow 102 = .ok (.lload 7, 2) := by decide +kernel
theorem dX10_narrow_104 : decode cX10_narrow 104 = .ok (.aload_n 0, 1) := by decide +kernel
theorem dX10_narrow_105 : decode cX10_narrow 105 = .ok (.getfield 15, 3) := by decide +kernel
theorem dX10_narrow_108 : decode cX10_narrow 108 = .ok (.iload 5, 2) := by decide +kernel
theorem dX10_narrow_110 : decode cX10_narrow 110 = .ok (.iload 9, 2) := by decide +kernel
theorem dX10_narrow_112 : decode cX10_narrow 112 = .ok (.iadd, 1) := by decide +kernel
theorem dX10_narrow_113 : decode cX10_narrow 113 = .ok (.laload, 1) := by decide +kernel
theorem dX10_narrow_114 : decode cX10_narrow 114 = .ok (.lor, 1) := by decide +kernel
theorem dX10_narrow_115 : decode cX10_narrow 115 = .ok (.lstore 7, 2) := by decide +kernel
theorem dX10_narrow_117 : decode cX10_narrow 117 = .ok (.iinc 9 1, 3) := by decide +kernel
theorem dX10_narrow_120 : decode cX10_narrow 120 = .ok (.goto (-55), 3) := by decide +kernel
theorem dX10_narrow_123 : decode cX10_narrow 123 = .ok (.lload 7, 2) := by decide +kernel
theorem dX10_narrow_125 : decode cX10_narrow 125 = .ok (.lconst 0, 1) := by decide +kernel
theorem dX10_narrow_126 : decode cX10_narrow 126 = .ok (.lcmp, 1) := by decide +kernel
theorem dX10_narrow_127 : decode cX10_narrow 127 = .ok (.ifCond .ne 5, 3) := by decide +kernel
theorem dX10_narrow_130 : decode cX10_narrow 130 = .ok (.iconst 0, 1) := by decide +kernel
theorem dX10_narrow_131 : decode cX10_narrow 131 = .ok (.ireturn, 1) := by decide +kernel
theorem dX10_narrow_132 : decode cX10_narrow 132 = .ok (.iinc 3 1, 3) := by decide +kernel
theorem dX10_narrow_135 : decode cX10_narrow 135 = .ok (.goto (-131), 3) := by decide +kernel
theorem dX10_narrow_138 : decode cX10_narrow 138 = .ok (.iconst 1, 1) := by decide +kernel
theorem dX10_narrow_139 : decode cX10_narrow 139 = .ok (.ireturn, 1) := by decide +kernel
noncomputable def f_X10_narrow_L65 (x1 : Int32) (x2 : Int32) (x3 : Int32) (x4 : Int32) (x5 : Int32) (x6 : Int32) (s : (ZMem × Int64 × Int32)) : Option ((ZMem × Int64 × Int32) ⊕ (ZMem × Int64)) := if (zI 3) ≤ s.2.2 then some (.inr (s.1, s.2.1)) else zchk (zin (x4 + s.2.2) 48) (zchk (zin (x6 + s.2.2) 2160) (zchk (zin (x5 + s.2.2) 48) (zbnd (zstL s.1 61 (zix (x5 + s.2.2)) ((s.1.2 61 (zix (x4 + s.2.2))) &&& (s.1.2 60 (zix (x6 + s.2.2))))) (fun M_101 => zchk (zin (x5 + s.2.2) 48) (zbnd (s.2.1 ||| (M_101.2 61 (zix (x5 + s.2.2)))) (fun x7_115 => zbnd (s.2.2 + (zI 1)) (fun x9_117 => some (.inl (M_101, x7_115, x9_117)))))))))
set_option maxRecDepth 100000 in
set_option maxHeartbeats 4000000 in
theorem w_X10_narrow_L65 {E : ZEv} {G : ZG} {K : (ZMem × Int32) → Prop} (h : zRu lyC E G (zRm K) cX10_narrow RX10 10 (some .boolean) 1) (x1 : Int32) (x2 : Int32) (x3 : Int32) (x4 : Int32) (x5 : Int32) (x6 : Int32) (s : (ZMem × Int64 × Int32)) (hk : zOk (zloop (f_X10_narrow_L65 x1 x2 x3 x4 x5 x6) s) (fun e => G e.1 123 [(0, zrf E 59), (1, .int x1), (2, .int x2), (3, .int x3), (7, .long e.2)] [])) : G s.1 65 [(0, zrf E 59), (1, .int x1), (2, .int x2), (3, .int x3), (4, .int x4), (5, .int x5), (6, .int x6), (7, .long s.2.1), (9, .int s.2.2)] [] := by
  refine zloop_walk (P := fun s => G s.1 65 [(0, zrf E 59), (1, .int x1), (2, .int x2), (3, .int x3), (4, .int x4), (5, .int x5), (6, .int x6), (7, .long s.2.1), (9, .int s.2.2)] []) hk (fun s hk => ?_)
  unfold f_X10_narrow_L65 at hk
  refine zr_iload h dX10_narrow_65 8 rfl ?_
  refine zr_iconst (v := (zI 3)) h dX10_narrow_67 rfl ?_
  refine zr_icmp_ge (tgt := 123) h dX10_narrow_68 (by decide) (fun c => ?_) (fun c => ?_)
  · have hk := zOk_t c hk
    have hk := zOk_some hk
    exact zr_weak h [0, 1, 2, 3, 7] rfl hk
  · have hk := zOk_f c hk
    refine zr_aload_n h dX10_narrow_71 0 rfl rfl ?_
    refine zr_getR h zfo_X10_15 lC_59 rfl dX10_narrow_72 ?_
    refine zr_iload h dX10_narrow_75 5 rfl ?_
    refine zr_iload h dX10_narrow_77 8 rfl ?_
    refine zr_iadd h dX10_narrow_79 ?_
    refine zr_aload_n h dX10_narrow_80 0 rfl rfl ?_
    refine zr_getR h zfo_X10_15 lC_59 rfl dX10_narrow_81 ?_
    refine zr_iload h dX10_narrow_84 4 rfl ?_
    refine zr_iload h dX10_narrow_86 8 rfl ?_
    refine zr_iadd h dX10_narrow_88 ?_
    have hb := zOk_chk hk
    have hk := hb.2
    refine zr_lald h lC_61 hb.1 dX10_narrow_89 ?_
    refine zr_aload_n h dX10_narrow_90 0 rfl rfl ?_
    refine zr_getR h zfo_X10_9 lC_59 rfl dX10_narrow_91 ?_
    refine zr_iload h dX10_narrow_94 6 rfl ?_
    refine zr_iload h dX10_narrow_96 8 rfl ?_
    refine zr_iadd h dX10_narrow_98 ?_
    have hb := zOk_chk hk
    have hk := hb.2
    refine zr_lald h lC_60 hb.1 dX10_narrow_99 ?_
    refine zr_land h dX10_narrow_100 ?_
    have hb := zOk_chk hk
    have hk := hb.2
    refine zr_last h lC_61 hb.1 dX10_narrow_101 ?_
    refine zr_mem (fun M_101 eM => ?_)
    have hk := zOk_bnd eM hk
    refine zr_lload h dX10_narrow_102 7 rfl ?_
    refine zr_aload_n h dX10_narrow_104 0 rfl rfl ?_
    refine zr_getR h zfo_X10_15 lC_59 rfl dX10_narrow_105 ?_
    refine zr_iload h dX10_narrow_108 5 rfl ?_
    refine zr_iload h dX10_narrow_110 8 rfl ?_
    refine zr_iadd h dX10_narrow_112 ?_
    have hb := zOk_chk hk
    have hk := hb.2
    refine zr_lald h lC_61 hb.1 dX10_narrow_113 ?_
    refine zr_lor h dX10_narrow_114 ?_
    refine zr_topl (fun x7_115 ex => ?_)
    have hk := zOk_bnd ex hk
    refine zr_lstore (L' := [(0, zrf E 59), (1, .int x1), (2, .int x2), (3, .int x3), (4, .int x4), (5, .int x5), (6, .int x6), (7, .long x7_115), (9, .int s.2.2)]) h [1, 2, 3, 4, 5, 6, 7, 0, 8] dX10_narrow_115 (by decide) rfl ?_
    obtain ⟨x9_117, ex⟩ : ∃ y : Int32, y = s.2.2 + (zI 1) := ⟨_, rfl⟩
    have hk := zOk_bnd ex hk
    refine zr_iinc (v := x9_117) (L' := [(0, zrf E 59), (1, .int x1), (2, .int x2), (3, .int x3), (4, .int x4), (5, .int x5), (6, .int x6), (7, .long x7_115), (9, .int x9_117)]) h 8 [1, 2, 3, 4, 5, 6, 7, 8, 0] dX10_narrow_117 rfl (by rw [ex]; rfl) (by decide) rfl ?_
    refine zr_goto (tgt := 65) h dX10_narrow_120 (by decide) ?_
    have hk := zOk_some hk
    exact zr_weak h [0, 1, 2, 3, 4, 5, 6, 7, 8] rfl hk
noncomputable def f_X10_narrow_L4 (x1 : Int32) (x2 : Int32) (s : (ZMem × Int32)) : Option ((ZMem × Int32) ⊕ ((ZMem) ⊕ (ZMem × Int32))) := zbind (f_X4_told s.1) (fun r_9 => if r_9 ≤ s.2 then some (.inr (.inl s.1)) else zbind (f_X10_openAt s.1 x1 s.2) (fun r_17 => zbind (f_X10_openAt s.1 (x1 + (zI 1)) s.2) (fun r_26 => zbind (f_X10_partnersAt s.1 x1 s.2 x2) (fun r_34 => if r_17 = (zI (-1)) then some (.inr (.inr (s.1, (zI 0)))) else if r_26 = (zI (-1)) then some (.inr (.inr (s.1, (zI 0)))) else if r_34 = (zI (-1)) then some (.inr (.inr (s.1, (zI 0)))) else zbind (zloop (f_X10_narrow_L65 x1 x2 s.2 r_17 r_26 r_34) (s.1, (0 : Int64), (zI 0))) (fun e65 => if (lg_cmp e65.2 (0 : Int64)) = (zI 0) then some (.inr (.inr (e65.1, (zI 0)))) else zbnd (s.2 + (zI 1)) (fun x3_132 => some (.inl (e65.1, x3_132))))))))
set_option maxRecDepth 100000 in
set_option maxHeartbeats 4000000 in
theorem w_X10_narrow_L4 {E : ZEv} {G : ZG} {K : (ZMem × Int32) → Prop} (h : zRu lyC E G (zRm K) cX10_narrow RX10 10 (some .boolean) 1) (x1 : Int32) (x2 : Int32) (s : (ZMem × Int32)) (hk : zOk (zloop (f_X10_narrow_L4 x1 x2) s) (fun e => zsel e (fun e0 => G e0 138 [] []) (fun f0 => K f0))) : G s.1 4 [(0, zrf E 59), (1, .int x1), (2, .int x2), (3, .int s.2)] [] := by
  refine zloop_walk (P := fun s => G s.1 4 [(0, zrf E 59), (1, .int x1), (2, .int x2), (3, .int s.2)] []) hk (fun s hk => ?_)
  unfold f_X10_narrow_L4 at hk
  refine zr_iload_n h dX10_narrow_4 3 rfl rfl ?_
  refine zr_aload_n h dX10_narrow_5 0 rfl rfl ?_
  refine zr_getR h zfo_X10_29 lC_59 rfl dX10_narrow_6 ?_
  refine zr_callVp h lC_17 zcw_X10_44 (by decide) (c_X4_told E s.1 _ (zOk_bind hk)) rfl rfl (Nat.le_of_ble_eq_true rfl) dX10_narrow_9 (fun r_9 hk => ?_)
  refine zr_icmp_ge (tgt := 138) h dX10_narrow_12 (by decide) (fun c => ?_) (fun c => ?_)
  · have hk := zOk_t c hk
    have hk := zOk_some hk
    exact zr_weak h [] rfl hk
  · have hk := zOk_f c hk
    refine zr_iload_n h dX10_narrow_15 1 rfl rfl ?_
    refine zr_iload_n h dX10_narrow_16 3 rfl rfl ?_
    refine zr_callSp h zcw_X10_75 (by decide) (c_X10_openAt E s.1 x1 s.2 _ (zOk_bind hk)) rfl rfl (Nat.le_of_ble_eq_true rfl) dX10_narrow_17 (fun r_17 hk => ?_)
    refine zr_istore (L' := [(0, zrf E 59), (1, .int x1), (2, .int x2), (3, .int s.2), (4, .int r_17)]) h [1, 2, 3, 4, 0] dX10_narrow_20 (by decide) rfl ?_
    refine zr_iload_n h dX10_narrow_22 1 rfl rfl ?_
    refine zr_iconst (v := (zI 1)) h dX10_narrow_23 rfl ?_
    refine zr_iadd h dX10_narrow_24 ?_
    refine zr_iload_n h dX10_narrow_25 3 rfl rfl ?_
    refine zr_callSp h zcw_X10_75 (by decide) (c_X10_openAt E s.1 (x1 + (zI 1)) s.2 _ (zOk_bind hk)) rfl rfl (Nat.le_of_ble_eq_true rfl) dX10_narrow_26 (fun r_26 hk => ?_)
    refine zr_istore (L' := [(0, zrf E 59), (1, .int x1), (2, .int x2), (3, .int s.2), (4, .int r_17), (5, .int r_26)]) h [1, 2, 3, 4, 5, 0] dX10_narrow_29 (by decide) rfl ?_
    refine zr_iload_n h dX10_narrow_31 1 rfl rfl ?_
    refine zr_iload_n h dX10_narrow_32 3 rfl rfl ?_
    refine zr_iload_n h dX10_narrow_33 2 rfl rfl ?_
    refine zr_callSp h zcw_X10_95 (by decide) (c_X10_partnersAt E s.1 x1 s.2 x2 _ (zOk_bind hk)) rfl rfl (Nat.le_of_ble_eq_true rfl) dX10_narrow_34 (fun r_34 hk => ?_)
    refine zr_istore (L' := [(0, zrf E 59), (1, .int x1), (2, .int x2), (3, .int s.2), (4, .int r_17), (5, .int r_26), (6, .int r_34)]) h [1, 2, 3, 4, 5, 6, 0] dX10_narrow_37 (by decide) rfl ?_
    refine zr_iload h dX10_narrow_39 4 rfl ?_
    refine zr_iconst (v := (zI (-1))) h dX10_narrow_41 rfl ?_
    refine zr_icmp_eq (tgt := 57) h dX10_narrow_42 (by decide) (fun c => ?_) (fun c => ?_)
    · have hk := zOk_t c hk
      refine zr_iconst (v := (zI 0)) h dX10_narrow_57 rfl ?_
      have hk := zOk_some hk
      exact zr_zret h dX10_narrow_58 (by decide) ⟨_, rfl, hk⟩
    · have hk := zOk_f c hk
      refine zr_iload h dX10_narrow_45 5 rfl ?_
      refine zr_iconst (v := (zI (-1))) h dX10_narrow_47 rfl ?_
      refine zr_icmp_eq (tgt := 57) h dX10_narrow_48 (by decide) (fun c => ?_) (fun c => ?_)
      · have hk := zOk_t c hk
        refine zr_iconst (v := (zI 0)) h dX10_narrow_57 rfl ?_
        have hk := zOk_some hk
        exact zr_zret h dX10_narrow_58 (by decide) ⟨_, rfl, hk⟩
      · have hk := zOk_f c hk
        refine zr_iload h dX10_narrow_51 6 rfl ?_
        refine zr_iconst (v := (zI (-1))) h dX10_narrow_53 rfl ?_
        refine zr_icmp_ne (tgt := 59) h dX10_narrow_54 (by decide) (fun c => ?_) (fun c => ?_)
        · have hk := zOk_t c hk
          refine zr_iconst (v := (zI 0)) h dX10_narrow_57 rfl ?_
          have hk := zOk_some hk
          exact zr_zret h dX10_narrow_58 (by decide) ⟨_, rfl, hk⟩
        · have hk := zOk_f c hk
          refine zr_lconst (v := 0) h dX10_narrow_59 (by decide) ?_
          refine zr_lstore (L' := [(0, zrf E 59), (1, .int x1), (2, .int x2), (3, .int s.2), (4, .int r_17), (5, .int r_26), (6, .int r_34), (7, .long (0 : Int64))]) h [1, 2, 3, 4, 5, 6, 7, 0] dX10_narrow_60 (by decide) rfl ?_
          refine zr_iconst (v := (zI 0)) h dX10_narrow_62 rfl ?_
          refine zr_istore (L' := [(0, zrf E 59), (1, .int x1), (2, .int x2), (3, .int s.2), (4, .int r_17), (5, .int r_26), (6, .int r_34), (7, .long (0 : Int64)), (9, .int (zI 0))]) h [1, 2, 3, 4, 5, 6, 7, 8, 0] dX10_narrow_63 (by decide) rfl ?_
          refine w_X10_narrow_L65 h x1 x2 s.2 r_17 r_26 r_34 (s.1, (0 : Int64), (zI 0)) (zOk_mono (zOk_bind hk) (fun e65 hk => ?_))
          refine zr_lload h dX10_narrow_123 4 rfl ?_
          refine zr_lconst (v := 0) h dX10_narrow_125 (by decide) ?_
          refine zr_lcmp h dX10_narrow_126 ?_
          refine zr_if_ne (tgt := 132) h dX10_narrow_127 (by decide) (fun c => ?_) (fun c => ?_)
          · have hk := zOk_t c hk
            refine zr_iconst (v := (zI 0)) h dX10_narrow_130 rfl ?_
            have hk := zOk_some hk
            exact zr_zret h dX10_narrow_131 (by decide) ⟨_, rfl, hk⟩
          · have hk := zOk_f c hk
            obtain ⟨x3_132, ex⟩ : ∃ y : Int32, y = s.2 + (zI 1) := ⟨_, rfl⟩
            have hk := zOk_bnd ex hk
            refine zr_iinc (v := x3_132) (L' := [(0, zrf E 59), (1, .int x1), (2, .int x2), (3, .int x3_132)]) h 3 [1, 2, 3, 0] dX10_narrow_132 rfl (by rw [ex]; rfl) (by decide) rfl ?_
            refine zr_goto (tgt := 4) h dX10_narrow_135 (by decide) ?_
            have hk := zOk_some hk
            exact zr_weak h [0, 1, 2, 3] rfl hk
noncomputable def f_X10_narrow (M : ZMem) (x1 : Int32) (x2 : Int32) : Option (ZMem × Int32) := zbnd (x1 + (zI 1)) (fun x3_3 => zbind (zloop (f_X10_narrow_L4 x1 x2) (M, x3_3)) (fun e4 => zsel e4 (fun e4a => some (e4a, (zI 1))) (fun e4b => some e4b)))
set_option maxRecDepth 100000 in
set_option maxHeartbeats 4000000 in
theorem c_X10_narrow (E : ZEv) (M : ZMem) (x1 : Int32) (x2 : Int32) (K : ZMem × Int32 → Prop) (hk : zOk (f_X10_narrow M x1 x2) K) : zCon lyC E yX10_narrow cX10_narrow 10 (some .boolean) 1 [zrf E 59, .int x1, .int x2] M (zRm K) := by
  refine zcon_of (L0 := [(0, zrf E 59), (1, .int x1), (2, .int x2)]) (by decide) rfl (Nat.le_of_ble_eq_true rfl) (fun G h => ?_)
  have h : zRu lyC E G (zRm K) cX10_narrow RX10 10 (some .boolean) 1 := h
  unfold f_X10_narrow at hk
  refine zr_iload_n h dX10_narrow_0 1 rfl rfl ?_
  refine zr_iconst (v := (zI 1)) h dX10_narrow_1 rfl ?_
  refine zr_iadd h dX10_narrow_2 ?_
  refine zr_topi (fun x3_3 ex => ?_)
  have hk := zOk_bnd ex hk
  refine zr_istore_n (L' := [(0, zrf E 59), (1, .int x1), (2, .int x2), (3, .int x3_3)]) h [1, 2, 3, 0] dX10_narrow_3 rfl (by decide) rfl ?_
  refine w_X10_narrow_L4 h x1 x2 (M, x3_3) (zOk_mono (zOk_bind hk) (fun e4 hk => ?_))
  cases e4 with
  | inl e4a =>
    have hk := zOk_selL hk
    refine zr_iconst (v := (zI 1)) h dX10_narrow_138 rfl ?_
    have hk := zOk_some hk
    exact zr_zret h dX10_narrow_139 (by decide) ⟨_, rfl, hk⟩
  | inr e4b =>
    have hk := zOk_selR hk
    have hk := zOk_some hk
    exact hk
theorem dX10_give_0 : decode cX10_give 0 = .ok (.aload_n 0, 1) := by decide +kernel
theorem dX10_give_1 : decode cX10_give 1 = .ok (.iload_n 1, 1) := by decide +kernel
theorem dX10_give_2 : decode cX10_give 2 = .ok (.iload_n 2, 1) := by decide +kernel
theorem dX10_give_3 : decode cX10_give 3 = .ok (.invokevirtual 126, 3) := by decide +kernel
theorem dX10_give_6 : decode cX10_give 6 = .ok (.ifCond .eq 17, 3) := by decide +kernel
theorem dX10_give_9 : decode cX10_give 9 = .ok (.aload_n 0, 1) := by decide +kernel
theorem dX10_give_10 : decode cX10_give 10 = .ok (.getfield 18, 3) := by decide +kernel
theorem dX10_give_13 : decode cX10_give 13 = .ok (.iload_n 1, 1) := by decide +kernel
theorem dX10_give_14 : decode cX10_give 14 = .ok (.iload_n 2, 1) := by decide +kernel
theorem dX10_give_15 : decode cX10_give 15 = .ok (.iastore, 1) := by decide +kernel
theorem dX10_give_16 : decode cX10_give 16 = .ok (.aload_n 0, 1) := by decide +kernel
theorem dX10_give_17 : decode cX10_give 17 = .ok (.iload_n 1, 1) := by decide +kernel
theorem dX10_give_18 : decode cX10_give 18 = .ok (.iconst 1, 1) := by decide +kernel
theorem dX10_give_19 : decode cX10_give 19 = .ok (.iadd, 1) := by decide +kernel
theorem dX10_give_20 : decode cX10_give 20 = .ok (.invokevirtual 87, 3) := by decide +kernel
theorem dX10_give_23 : decode cX10_give 23 = .ok (.return_, 1) := by decide +kernel
noncomputable def f_X10_give (ch : ZMem → Int32 → Option ZMem) (M : ZMem) (x1 : Int32) (x2 : Int32) : Option ZMem := zbind (f_X10_narrow M x1 x2) (fun r_3 => if r_3.2 = (zI 0) then some r_3.1 else zchk (zin x1 4) (zbnd (zstI r_3.1 62 (zix x1) x2) (fun M_15 => zbind (ch M_15 (x1 + (zI 1))) (fun M_20 => some M_20))))
set_option maxRecDepth 100000 in
set_option maxHeartbeats 4000000 in
theorem c_X10_give (E : ZEv) (ch : ZMem → Int32 → Option ZMem) {lc : Nat} (hlc : 12 ≤ lc) (hch : ∀ (M : ZMem) (x1 : Int32) (K : ZMem → Prop), zOk (ch M x1) K → zCon lyC E yX10_choose cX10_choose 3 none lc [zrf E 59, .int x1] M (zRv K)) (M : ZMem) (x1 : Int32) (x2 : Int32) (K : ZMem → Prop) (hk : zOk (f_X10_give ch M x1 x2) K) : zCon lyC E yX10_give cX10_give 3 none (lc + 1) [zrf E 59, .int x1, .int x2] M (zRv K) := by
  refine zcon_of (L0 := [(0, zrf E 59), (1, .int x1), (2, .int x2)]) (by decide) rfl (Nat.le_of_ble_eq_true rfl) (fun G h => ?_)
  have h : zRu lyC E G (zRv K) cX10_give RX10 3 none (lc + 1) := h
  unfold f_X10_give at hk
  refine zr_aload_n h dX10_give_0 0 rfl rfl ?_
  refine zr_iload_n h dX10_give_1 1 rfl rfl ?_
  refine zr_iload_n h dX10_give_2 2 rfl rfl ?_
  refine zr_callVm h lC_59 zcw_X10_126 (by omega) (c_X10_narrow E M x1 x2 _ (zOk_bind hk)) rfl rfl (Nat.le_of_ble_eq_true rfl) dX10_give_3 (fun r_3 hk => ?_)
  refine zr_if_eq (tgt := 23) h dX10_give_6 (by decide) (fun c => ?_) (fun c => ?_)
  · have hk := zOk_t c hk
    have hk := zOk_some hk
    exact zr_vret h dX10_give_23 ⟨rfl, hk⟩
  · have hk := zOk_f c hk
    refine zr_aload_n h dX10_give_9 0 rfl rfl ?_
    refine zr_getR h zfo_X10_18 lC_59 rfl dX10_give_10 ?_
    refine zr_iload_n h dX10_give_13 1 rfl rfl ?_
    refine zr_iload_n h dX10_give_14 2 rfl rfl ?_
    have hb := zOk_chk hk
    have hk := hb.2
    refine zr_iast h lC_62 hb.1 dX10_give_15 ?_
    refine zr_mem (fun M_15 eM => ?_)
    have hk := zOk_bnd eM hk
    refine zr_aload_n h dX10_give_16 0 rfl rfl ?_
    refine zr_iload_n h dX10_give_17 1 rfl rfl ?_
    refine zr_iconst (v := (zI 1)) h dX10_give_18 rfl ?_
    refine zr_iadd h dX10_give_19 ?_
    refine zr_callVv h lC_59 zcw_X10_87 (by omega) (hch M_15 (x1 + (zI 1)) _ (zOk_bind hk)) rfl rfl (Nat.le_of_ble_eq_true rfl) dX10_give_20 (fun M_20 hk => ?_)
    have hk := zOk_some hk
    exact zr_vret h dX10_give_23 ⟨rfl, hk⟩
theorem dX10_choose_0 : decode cX10_choose 0 = .ok (.iload_n 1, 1) := by decide +kernel
theorem dX10_choose_1 : decode cX10_choose 1 = .ok (.ifCond .lt 19, 3) := by decide +kernel
theorem dX10_choose_4 : decode cX10_choose 4 = .ok (.iload_n 1, 1) := by decide +kernel
theorem dX10_choose_5 : decode cX10_choose 5 = .ok (.iconst 4, 1) := by decide +kernel
theorem dX10_choose_6 : decode cX10_choose 6 = .ok (.if_icmp .ge 14, 3) := by decide +kernel
theorem dX10_choose_9 : decode cX10_choose 9 = .ok (.iload_n 1, 1) := by decide +kernel
theorem dX10_choose_10 : decode cX10_choose 10 = .ok (.aload_n 0, 1) := by decide +kernel
theorem dX10_choose_11 : decode cX10_choose 11 = .ok (.getfield 29, 3) := by decide +kernel
theorem dX10_choose_14 : decode cX10_choose 14 = .ok (.invokevirtual 44, 3) := by decide +kernel
theorem dX10_choose_17 : decode cX10_choose 17 = .ok (.if_icmp .lt 4, 3) := by decide +kernel
theorem dX10_choose_20 : decode cX10_choose 20 = .ok (.return_, 1) := by decide +kernel
theorem dX10_choose_21 : decode cX10_choose 21 = .ok (.iload_n 1, 1) := by decide +kernel
theorem dX10_choose_22 : decode cX10_choose 22 = .ok (.aload_n 0, 1) := by decide +kernel
theorem dX10_choose_23 : decode cX10_choose 23 = .ok (.getfield 29, 3) := by decide +kernel
theorem dX10_choose_26 : decode cX10_choose 26 = .ok (.invokevirtual 44, 3) := by decide +kernel
theorem dX10_choose_29 : decode cX10_choose 29 = .ok (.iconst 1, 1) := by decide +kernel
theorem dX10_choose_30 : decode cX10_choose 30 = .ok (.isub, 1) := by decide +kernel
theorem dX10_choose_31 : decode cX10_choose 31 = .ok (.if_icmp .ne 9, 3) := by decide +kernel
theorem dX10_choose_34 : decode cX10_choose 34 = .ok (.aload_n 0, 1) := by decide +kernel
theorem dX10_choose_35 : decode cX10_choose 35 = .ok (.iload_n 1, 1) := by decide +kernel
theorem dX10_choose_36 : decode cX10_choose 36 = .ok (.invokevirtual 120, 3) := by decide +kernel
theorem dX10_choose_39 : decode cX10_choose 39 = .ok (.return_, 1) := by decide +kernel
theorem dX10_choose_40 : decode cX10_choose 40 = .ok (.iconst 0, 1) := by decide +kernel
theorem dX10_choose_41 : decode cX10_choose 41 = .ok (.istore_n 2, 1) := by decide +kernel
theorem dX10_choose_42 : decode cX10_choose 42 = .ok (.iload_n 2, 1) := by decide +kernel
theorem dX10_choose_43 : decode cX10_choose 43 = .ok (.aload_n 0, 1) := by decide +kernel
theorem dX10_choose_44 : decode cX10_choose 44 = .ok (.getfield 33, 3) := by decide +kernel
theorem dX10_choose_47 : decode cX10_choose 47 = .ok (.invokevirtual 60, 3) := by decide +kernel
theorem dX10_choose_50 : decode cX10_choose 50 = .ok (.if_icmp .ge 41, 3) := by decide +kernel
theorem dX10_choose_53 : decode cX10_choose 53 = .ok (.aload_n 0, 1) := by decide +kernel
theorem dX10_choose_54 : decode cX10_choose 54 = .ok (.getfield 50, 3) := by decide +kernel
theorem dX10_choose_57 : decode cX10_choose 57 = .ok (.sipush 999, 3) := by decide +kernel
theorem dX10_choose_60 : decode cX10_choose 60 = .ok (.if_icmp .ge 31, 3) := by decide +kernel
theorem dX10_choose_63 : decode cX10_choose 63 = .ok (.aload_n 0, 1) := by decide +kernel
theorem dX10_choose_64 : decode cX10_choose 64 = .ok (.getfield 15, 3) := by decide +kernel
theorem dX10_choose_67 : decode cX10_choose 67 = .ok (.iload_n 1, 1) := by decide +kernel
theorem dX10_choose_68 : decode cX10_choose 68 = .ok (.iload_n 1, 1) := by decide +kernel
theorem dX10_choose_69 : decode cX10_choose 69 = .ok (.invokestatic 75, 3) := by decide +kernel
theorem dX10_choose_72 : decode cX10_choose 72 = .ok (.iload_n 2, 1) := by decide +kernel
theorem dX10_choose_73 : decode cX10_choose 73 = .ok (.invokestatic 91, 3) := by decide +kernel
theorem dX10_choose_76 : decode cX10_choose 76 = .ok (.ifCond .eq 9, 3) := by decide +kernel
theorem dX10_choose_79 : decode cX10_choose 79 = .ok (.aload_n 0, 1) := by decide +kernel
theorem dX10_choose_80 : decode cX10_choose 80 = .ok (.iload_n 1, 1) := by decide +kernel
theorem dX10_choose_81 : decode cX10_choose 81 = .ok (.iload_n 2, 1) := by decide +kernel
theorem dX10_choose_82 : decode cX10_choose 82 = .ok (.invokevirtual 123, 3) := by decide +kernel
theorem dX10_choose_85 : decode cX10_choose 85 = .ok (.iinc 2 1, 3) := by decide +kernel
theorem dX10_choose_88 : decode cX10_choose 88 = .ok (.goto (-46), 3) := by decide +kernel
theorem dX10_choose_91 : decode cX10_choose 91 = .ok (.return_, 1) := by decide +kernel
noncomputable def f_X10_choose_L42 (ch : ZMem → Int32 → Option ZMem) (x1 : Int32) (s : (ZMem × Int32)) : Option ((ZMem × Int32) ⊕ (ZMem)) := zbind (f_X2_held s.1) (fun r_47 => if r_47 ≤ s.2 then some (.inr s.1) else if (zI 999) ≤ (s.1.1 59 9) then some (.inr s.1) else zbind (f_X10_openAt s.1 x1 x1) (fun r_69 => zbind (f_X10_hasBit 61 48 s.1 r_69 s.2) (fun r_73 => if r_73 = (zI 0) then zbnd (s.2 + (zI 1)) (fun x2_85 => some (.inl (s.1, x2_85))) else zbind (f_X10_give ch s.1 x1 s.2) (fun M_82 => zbnd (s.2 + (zI 1)) (fun x2_85 => some (.inl (M_82, x2_85)))))))
set_option maxRecDepth 100000 in
set_option maxHeartbeats 4000000 in
theorem w_X10_choose_L42 {E : ZEv} {G : ZG} {K : ZMem → Prop} {ch : ZMem → Int32 → Option ZMem} {lc : Nat} (h : zRu lyC E G (zRv K) cX10_choose RX10 3 none (lc + 2)) (hlc : 12 ≤ lc) (hch : ∀ (M : ZMem) (x1 : Int32) (K : ZMem → Prop), zOk (ch M x1) K → zCon lyC E yX10_choose cX10_choose 3 none lc [zrf E 59, .int x1] M (zRv K)) (x1 : Int32) (s : (ZMem × Int32)) (hk : zOk (zloop (f_X10_choose_L42 ch x1) s) (fun e => G e 91 [] [])) : G s.1 42 [(0, zrf E 59), (1, .int x1), (2, .int s.2)] [] := by
  refine zloop_walk (P := fun s => G s.1 42 [(0, zrf E 59), (1, .int x1), (2, .int s.2)] []) hk (fun s hk => ?_)
  unfold f_X10_choose_L42 at hk
  refine zr_iload_n h dX10_choose_42 2 rfl rfl ?_
  refine zr_aload_n h dX10_choose_43 0 rfl rfl ?_
  refine zr_getR h zfo_X10_33 lC_59 rfl dX10_choose_44 ?_
  refine zr_callVp h lC_34 zcw_X10_60 (by omega) (c_X2_held E s.1 _ (zOk_bind hk)) rfl rfl (Nat.le_of_ble_eq_true rfl) dX10_choose_47 (fun r_47 hk => ?_)
  refine zr_icmp_ge (tgt := 91) h dX10_choose_50 (by decide) (fun c => ?_) (fun c => ?_)
  · have hk := zOk_t c hk
    have hk := zOk_some hk
    exact zr_weak h [] rfl hk
  · have hk := zOk_f c hk
    refine zr_aload_n h dX10_choose_53 0 rfl rfl ?_
    refine zr_getI h zfo_X10_50 lC_59 rfl dX10_choose_54 ?_
    refine zr_sipush (v := (zI 999)) h dX10_choose_57 (by decide) ?_
    refine zr_icmp_ge (tgt := 91) h dX10_choose_60 (by decide) (fun c => ?_) (fun c => ?_)
    · have hk := zOk_t c hk
      have hk := zOk_some hk
      exact zr_weak h [] rfl hk
    · have hk := zOk_f c hk
      refine zr_aload_n h dX10_choose_63 0 rfl rfl ?_
      refine zr_getR h zfo_X10_15 lC_59 rfl dX10_choose_64 ?_
      refine zr_iload_n h dX10_choose_67 1 rfl rfl ?_
      refine zr_iload_n h dX10_choose_68 1 rfl rfl ?_
      refine zr_callSp h zcw_X10_75 (by omega) (c_X10_openAt E s.1 x1 x1 _ (zOk_bind hk)) rfl rfl (Nat.le_of_ble_eq_true rfl) dX10_choose_69 (fun r_69 hk => ?_)
      refine zr_iload_n h dX10_choose_72 2 rfl rfl ?_
      refine zr_callSp h zcw_X10_91 (by omega) (c_X10_hasBit E 61 48 lC_61 s.1 r_69 s.2 _ (zOk_bind hk)) rfl rfl (Nat.le_of_ble_eq_true rfl) dX10_choose_73 (fun r_73 hk => ?_)
      refine zr_if_eq (tgt := 85) h dX10_choose_76 (by decide) (fun c => ?_) (fun c => ?_)
      · have hk := zOk_t c hk
        obtain ⟨x2_85, ex⟩ : ∃ y : Int32, y = s.2 + (zI 1) := ⟨_, rfl⟩
        have hk := zOk_bnd ex hk
        refine zr_iinc (v := x2_85) (L' := [(0, zrf E 59), (1, .int x1), (2, .int x2_85)]) h 2 [1, 2, 0] dX10_choose_85 rfl (by rw [ex]; rfl) (by decide) rfl ?_
        refine zr_goto (tgt := 42) h dX10_choose_88 (by decide) ?_
        have hk := zOk_some hk
        exact zr_weak h [0, 1, 2] rfl hk
      · have hk := zOk_f c hk
        refine zr_aload_n h dX10_choose_79 0 rfl rfl ?_
        refine zr_iload_n h dX10_choose_80 1 rfl rfl ?_
        refine zr_iload_n h dX10_choose_81 2 rfl rfl ?_
        refine zr_callVv h lC_59 zcw_X10_123 (by omega) (c_X10_give E ch hlc hch s.1 x1 s.2 _ (zOk_bind hk)) rfl rfl (Nat.le_of_ble_eq_true rfl) dX10_choose_82 (fun M_82 hk => ?_)
        obtain ⟨x2_85, ex⟩ : ∃ y : Int32, y = s.2 + (zI 1) := ⟨_, rfl⟩
        have hk := zOk_bnd ex hk
        refine zr_iinc (v := x2_85) (L' := [(0, zrf E 59), (1, .int x1), (2, .int x2_85)]) h 2 [1, 2, 0] dX10_choose_85 rfl (by rw [ex]; rfl) (by decide) rfl ?_
        refine zr_goto (tgt := 42) h dX10_choose_88 (by decide) ?_
        have hk := zOk_some hk
        exact zr_weak h [0, 1, 2] rfl hk
noncomputable def f_X10_choose (ch : ZMem → Int32 → Option ZMem) (M : ZMem) (x1 : Int32) : Option ZMem := if x1 < (zI 0) then some M else if (zI 4) ≤ x1 then some M else zbind (f_X4_told M) (fun r_14 => if x1 < r_14 then zbind (f_X4_told M) (fun r_26 => if x1 = (r_26 - (zI 1)) then zbind (f_X10_countLast M x1) (fun M_36 => some M_36) else zbind (zloop (f_X10_choose_L42 ch x1) (M, (zI 0))) (fun e42 => some e42)) else some M)
set_option maxRecDepth 100000 in
set_option maxHeartbeats 4000000 in
theorem c_X10_choose (E : ZEv) (ch : ZMem → Int32 → Option ZMem) {lc : Nat} (hlc : 12 ≤ lc) (hch : ∀ (M : ZMem) (x1 : Int32) (K : ZMem → Prop), zOk (ch M x1) K → zCon lyC E yX10_choose cX10_choose 3 none lc [zrf E 59, .int x1] M (zRv K)) (M : ZMem) (x1 : Int32) (K : ZMem → Prop) (hk : zOk (f_X10_choose ch M x1) K) : zCon lyC E yX10_choose cX10_choose 3 none (lc + 2) [zrf E 59, .int x1] M (zRv K) := by
  refine zcon_of (L0 := [(0, zrf E 59), (1, .int x1)]) (by decide) rfl (Nat.le_of_ble_eq_true rfl) (fun G h => ?_)
  have h : zRu lyC E G (zRv K) cX10_choose RX10 3 none (lc + 2) := h
  unfold f_X10_choose at hk
  refine zr_iload_n h dX10_choose_0 1 rfl rfl ?_
  refine zr_if_lt (tgt := 20) h dX10_choose_1 (by decide) (fun c => ?_) (fun c => ?_)
  · have hk := zOk_t c hk
    have hk := zOk_some hk
    exact zr_vret h dX10_choose_20 ⟨rfl, hk⟩
  · have hk := zOk_f c hk
    refine zr_iload_n h dX10_choose_4 1 rfl rfl ?_
    refine zr_iconst (v := (zI 4)) h dX10_choose_5 rfl ?_
    refine zr_icmp_ge (tgt := 20) h dX10_choose_6 (by decide) (fun c => ?_) (fun c => ?_)
    · have hk := zOk_t c hk
      have hk := zOk_some hk
      exact zr_vret h dX10_choose_20 ⟨rfl, hk⟩
    · have hk := zOk_f c hk
      refine zr_iload_n h dX10_choose_9 1 rfl rfl ?_
      refine zr_aload_n h dX10_choose_10 0 rfl rfl ?_
      refine zr_getR h zfo_X10_29 lC_59 rfl dX10_choose_11 ?_
      refine zr_callVp h lC_17 zcw_X10_44 (by omega) (c_X4_told E M _ (zOk_bind hk)) rfl rfl (Nat.le_of_ble_eq_true rfl) dX10_choose_14 (fun r_14 hk => ?_)
      refine zr_icmp_lt (tgt := 21) h dX10_choose_17 (by decide) (fun c => ?_) (fun c => ?_)
      · have hk := zOk_t c hk
        refine zr_iload_n h dX10_choose_21 1 rfl rfl ?_
        refine zr_aload_n h dX10_choose_22 0 rfl rfl ?_
        refine zr_getR h zfo_X10_29 lC_59 rfl dX10_choose_23 ?_
        refine zr_callVp h lC_17 zcw_X10_44 (by omega) (c_X4_told E M _ (zOk_bind hk)) rfl rfl (Nat.le_of_ble_eq_true rfl) dX10_choose_26 (fun r_26 hk => ?_)
        refine zr_iconst (v := (zI 1)) h dX10_choose_29 rfl ?_
        refine zr_isub h dX10_choose_30 ?_
        refine zr_icmp_ne (tgt := 40) h dX10_choose_31 (by decide) (fun c => ?_) (fun c => ?_)
        · have hk := zOk_t c hk
          refine zr_aload_n h dX10_choose_34 0 rfl rfl ?_
          refine zr_iload_n h dX10_choose_35 1 rfl rfl ?_
          refine zr_callVv h lC_59 zcw_X10_120 (by omega) (c_X10_countLast E M x1 _ (zOk_bind hk)) rfl rfl (Nat.le_of_ble_eq_true rfl) dX10_choose_36 (fun M_36 hk => ?_)
          have hk := zOk_some hk
          exact zr_vret h dX10_choose_39 ⟨rfl, hk⟩
        · have hk := zOk_f c hk
          refine zr_iconst (v := (zI 0)) h dX10_choose_40 rfl ?_
          refine zr_istore_n (L' := [(0, zrf E 59), (1, .int x1), (2, .int (zI 0))]) h [1, 2, 0] dX10_choose_41 rfl (by decide) rfl ?_
          refine w_X10_choose_L42 h hlc hch x1 (M, (zI 0)) (zOk_mono (zOk_bind hk) (fun e42 hk => ?_))
          have hk := zOk_some hk
          exact zr_vret h dX10_choose_91 ⟨rfl, hk⟩
      · have hk := zOk_f c hk
        have hk := zOk_some hk
        exact zr_vret h dX10_choose_20 ⟨rfl, hk⟩
noncomputable def f_X10_chooseN : Nat → ZMem → Int32 → Option ZMem
  | 0, _, _ => none
  | d + 1, M, x1 => f_X10_choose (f_X10_chooseN d) M x1
theorem c_X10_chooseD (E : ZEv) : ∀ (d : Nat) (M : ZMem) (x1 : Int32) (K : ZMem → Prop), zOk (f_X10_chooseN d M x1) K → zCon lyC E yX10_choose cX10_choose 3 none (12 + 2 * d) [zrf E 59, .int x1] M (zRv K)
  | 0, _, _, _, h => by
    obtain ⟨a, h1, -⟩ := h
    cases h1
  | d + 1, M, x1, K, h => c_X10_choose E (f_X10_chooseN d) (lc := 12 + 2 * d) (Nat.le_add_right 12 _) (c_X10_chooseD E d) M x1 K h
theorem c_X10_chooseN (E : ZEv) (M : ZMem) (x1 : Int32) (K : ZMem → Prop) (hk : zOk (f_X10_chooseN 5 M x1) K) : zCon lyC E yX10_choose cX10_choose 3 none 22 [zrf E 59, .int x1] M (zRv K) := c_X10_chooseD E 5 M x1 K hk

theorem dX10_settle_0 : decode cX10_settle 0 = .ok (.aload_n 0, 1) := by decide +kernel
theorem dX10_settle_1 : decode cX10_settle 1 = .ok (.aload_n 0, 1) := by decide +kernel
theorem dX10_settle_2 : decode cX10_settle 2 = .ok (.getfield 29, 3) := by decide +kernel
theorem dX10_settle_5 : decode cX10_settle 5 = .ok (.invokevirtual 44, 3) := by decide +kernel
theorem dX10_settle_8 : decode cX10_settle 8 = .ok (.ifCond .ne 7, 3) := by decide +kernel
theorem dX10_settle_11 : decode cX10_settle 11 = .ok (.iconst 1, 1) := by decide +kernel
theorem dX10_settle_12 : decode cX10_settle 12 = .ok (.goto 4, 3) := by decide +kernel
theorem dX10_settle_15 : decode cX10_settle 15 = .ok (.iconst 0, 1) := by decide +kernel
theorem dX10_settle_16 : decode cX10_settle 16 = .ok (.putfield 50, 3) := by decide +kernel
theorem dX10_settle_19 : decode cX10_settle 19 = .ok (.aload_n 0, 1) := by decide +kernel
theorem dX10_settle_20 : decode cX10_settle 20 = .ok (.getfield 15, 3) := by decide +kernel
theorem dX10_settle_23 : decode cX10_settle 23 = .ok (.lconst 0, 1) := by decide +kernel
theorem dX10_settle_24 : decode cX10_settle 24 = .ok (.invokestatic 54, 3) := by decide +kernel
theorem dX10_settle_27 : decode cX10_settle 27 = .ok (.aload_n 0, 1) := by decide +kernel
theorem dX10_settle_28 : decode cX10_settle 28 = .ok (.getfield 9, 3) := by decide +kernel
theorem dX10_settle_31 : decode cX10_settle 31 = .ok (.lconst 0, 1) := by decide +kernel
theorem dX10_settle_32 : decode cX10_settle 32 = .ok (.invokestatic 54, 3) := by decide +kernel
theorem dX10_settle_35 : decode cX10_settle 35 = .ok (.iconst 0, 1) := by decide +kernel
theorem dX10_settle_36 : decode cX10_settle 36 = .ok (.istore_n 1, 1) := by decide +kernel
theorem dX10_settle_37 : decode cX10_settle 37 = .ok (.iload_n 1, 1) := by decide +kernel
theorem dX10_settle_38 : decode cX10_settle 38 = .ok (.aload_n 0, 1) := by decide +kernel
theorem dX10_settle_39 : decode cX10_settle 39 = .ok (.getfield 29, 3) := by decide +kernel
theorem dX10_settle_42 : decode cX10_settle 42 = .ok (.invokevirtual 44, 3) := by decide +kernel
theorem dX10_settle_45 : decode cX10_settle 45 = .ok (.if_icmp .ge 83, 3) := by decide +kernel
theorem dX10_settle_48 : decode cX10_settle 48 = .ok (.iconst 0, 1) := by decide +kernel
theorem dX10_settle_49 : decode cX10_settle 49 = .ok (.istore_n 2, 1) := by decide +kernel
theorem dX10_settle_50 : decode cX10_settle 50 = .ok (.iload_n 2, 1) := by decide +kernel
theorem dX10_settle_51 : decode cX10_settle 51 = .ok (.aload_n 0, 1) := by decide +kernel
theorem dX10_settle_52 : decode cX10_settle 52 = .ok (.getfield 33, 3) := by decide +kernel
theorem dX10_settle_55 : decode cX10_settle 55 = .ok (.invokevirtual 60, 3) := by decide +kernel
theorem dX10_settle_58 : decode cX10_settle 58 = .ok (.if_icmp .ge 45, 3) := by decide +kernel
theorem dX10_settle_61 : decode cX10_settle 61 = .ok (.aload_n 0, 1) := by decide +kernel
theorem dX10_settle_62 : decode cX10_settle 62 = .ok (.getfield 25, 3) := by decide +kernel
theorem dX10_settle_65 : decode cX10_settle 65 = .ok (.iload_n 1, 1) := by decide +kernel
theorem dX10_settle_66 : decode cX10_settle 66 = .ok (.iload_n 2, 1) := by decide +kernel
theorem dX10_settle_67 : decode cX10_settle 67 = .ok (.invokevirtual 65, 3) := by decide +kernel
theorem dX10_settle_70 : decode cX10_settle 70 = .ok (.ifCond .eq 27, 3) := by decide +kernel
theorem dX10_settle_73 : decode cX10_settle 73 = .ok (.aload_n 0, 1) := by decide +kernel
theorem dX10_settle_74 : decode cX10_settle 74 = .ok (.iload_n 1, 1) := by decide +kernel
theorem dX10_settle_75 : decode cX10_settle 75 = .ok (.iload_n 2, 1) := by decide +kernel
theorem dX10_settle_76 : decode cX10_settle 76 = .ok (.iload_n 1, 1) := by decide +kernel
theorem dX10_settle_77 : decode cX10_settle 77 = .ok (.iload_n 2, 1) := by decide +kernel
theorem dX10_settle_78 : decode cX10_settle 78 = .ok (.invokevirtual 71, 3) := by decide +kernel
theorem dX10_settle_81 : decode cX10_settle 81 = .ok (.ifCond .eq 16, 3) := by decide +kernel
theorem dX10_settle_84 : decode cX10_settle 84 = .ok (.aload_n 0, 1) := by decide +kernel
theorem dX10_settle_85 : decode cX10_settle 85 = .ok (.getfield 15, 3) := by decide +kernel
theorem dX10_settle_88 : decode cX10_settle 88 = .ok (.iconst 0, 1) := by decide +kernel
theorem dX10_settle_89 : decode cX10_settle 89 = .ok (.iload_n 1, 1) := by decide +kernel
theorem dX10_settle_90 : decode cX10_settle 90 = .ok (.invokestatic 75, 3) := by decide +kernel
theorem dX10_settle_93 : decode cX10_settle 93 = .ok (.iload_n 2, 1) := by decide +kernel
theorem dX10_settle_94 : decode cX10_settle 94 = .ok (.invokestatic 79, 3) := by decide +kernel
theorem dX10_settle_97 : decode cX10_settle 97 = .ok (.iinc 2 1, 3) := by decide +kernel
theorem dX10_settle_100 : decode cX10_settle 100 = .ok (.goto (-50), 3) := by decide +kernel
theorem dX10_settle_103 : decode cX10_settle 103 = .ok (.iconst 0, 1) := by decide +kernel
theorem dX10_settle_104 : decode cX10_settle 104 = .ok (.istore_n 2, 1) := by decide +kernel
theorem dX10_settle_105 : decode cX10_settle 105 = .ok (.iload_n 2, 1) := by decide +kernel
theorem dX10_settle_106 : decode cX10_settle 106 = .ok (.iload_n 1, 1) := by decide +kernel
theorem dX10_settle_107 : decode cX10_settle 107 = .ok (.if_icmp .ge 15, 3) := by decide +kernel
theorem dX10_settle_110 : decode cX10_settle 110 = .ok (.aload_n 0, 1) := by decide +kernel
theorem dX10_settle_111 : decode cX10_settle 111 = .ok (.iload_n 2, 1) := by decide +kernel
theorem dX10_settle_112 : decode cX10_settle 112 = .ok (.iload_n 1, 1) := by decide +kernel
theorem dX10_settle_113 : decode cX10_settle 113 = .ok (.invokevirtual 83, 3) := by decide +kernel
theorem dX10_settle_116 : decode cX10_settle 116 = .ok (.iinc 2 1, 3) := by decide +kernel
theorem dX10_settle_119 : decode cX10_settle 119 = .ok (.goto (-14), 3) := by decide +kernel
theorem dX10_settle_122 : decode cX10_settle 122 = .ok (.iinc 1 1, 3) := by decide +kernel
theorem dX10_settle_125 : decode cX10_settle 125 = .ok (.goto (-88), 3) := by decide +kernel
theorem dX10_settle_128 : decode cX10_settle 128 = .ok (.aload_n 0, 1) := by decide +kernel
theorem dX10_settle_129 : decode cX10_settle 129 = .ok (.iconst 0, 1) := by decide +kernel
theorem dX10_settle_130 : decode cX10_settle 130 = .ok (.invokevirtual 87, 3) := by decide +kernel
theorem dX10_settle_133 : decode cX10_settle 133 = .ok (.return_, 1) := by decide +kernel
noncomputable def f_X10_settle_L50 (x1 : Int32) (s : (ZMem × Int32)) : Option ((ZMem × Int32) ⊕ (ZMem)) := zbind (f_X2_held s.1) (fun r_55 => if r_55 ≤ s.2 then some (.inr s.1) else zbind (f_X3_isFitting s.1 x1 s.2) (fun r_67 => if r_67 = (zI 0) then zbnd (s.2 + (zI 1)) (fun x2_97 => some (.inl (s.1, x2_97))) else zbind (f_X10_goTogether s.1 x1 s.2 x1 s.2) (fun r_78 => if r_78 = (zI 0) then zbnd (s.2 + (zI 1)) (fun x2_97 => some (.inl (s.1, x2_97))) else zbind (f_X10_openAt s.1 (zI 0) x1) (fun r_90 => zbind (f_X10_putBit 61 48 s.1 r_90 s.2) (fun M_94 => zbnd (s.2 + (zI 1)) (fun x2_97 => some (.inl (M_94, x2_97))))))))
set_option maxRecDepth 100000 in
set_option maxHeartbeats 4000000 in
theorem w_X10_settle_L50 {E : ZEv} {G : ZG} {K : ZMem → Prop} (h : zRu lyC E G (zRv K) cX10_settle RX10 3 none 41) (x1 : Int32) (s : (ZMem × Int32)) (hk : zOk (zloop (f_X10_settle_L50 x1) s) (fun e => G e 103 [(0, zrf E 59), (1, .int x1)] [])) : G s.1 50 [(0, zrf E 59), (1, .int x1), (2, .int s.2)] [] := by
  refine zloop_walk (P := fun s => G s.1 50 [(0, zrf E 59), (1, .int x1), (2, .int s.2)] []) hk (fun s hk => ?_)
  unfold f_X10_settle_L50 at hk
  refine zr_iload_n h dX10_settle_50 2 rfl rfl ?_
  refine zr_aload_n h dX10_settle_51 0 rfl rfl ?_
  refine zr_getR h zfo_X10_33 lC_59 rfl dX10_settle_52 ?_
  refine zr_callVp h lC_34 zcw_X10_60 (by decide) (c_X2_held E s.1 _ (zOk_bind hk)) rfl rfl (Nat.le_of_ble_eq_true rfl) dX10_settle_55 (fun r_55 hk => ?_)
  refine zr_icmp_ge (tgt := 103) h dX10_settle_58 (by decide) (fun c => ?_) (fun c => ?_)
  · have hk := zOk_t c hk
    have hk := zOk_some hk
    exact zr_weak h [0, 1] rfl hk
  · have hk := zOk_f c hk
    refine zr_aload_n h dX10_settle_61 0 rfl rfl ?_
    refine zr_getR h zfo_X10_25 lC_59 rfl dX10_settle_62 ?_
    refine zr_iload_n h dX10_settle_65 1 rfl rfl ?_
    refine zr_iload_n h dX10_settle_66 2 rfl rfl ?_
    refine zr_callVp h lC_54 zcw_X10_65 (by decide) (c_X3_isFitting E s.1 x1 s.2 _ (zOk_bind hk)) rfl rfl (Nat.le_of_ble_eq_true rfl) dX10_settle_67 (fun r_67 hk => ?_)
    refine zr_if_eq (tgt := 97) h dX10_settle_70 (by decide) (fun c => ?_) (fun c => ?_)
    · have hk := zOk_t c hk
      obtain ⟨x2_97, ex⟩ : ∃ y : Int32, y = s.2 + (zI 1) := ⟨_, rfl⟩
      have hk := zOk_bnd ex hk
      refine zr_iinc (v := x2_97) (L' := [(0, zrf E 59), (1, .int x1), (2, .int x2_97)]) h 2 [1, 2, 0] dX10_settle_97 rfl (by rw [ex]; rfl) (by decide) rfl ?_
      refine zr_goto (tgt := 50) h dX10_settle_100 (by decide) ?_
      have hk := zOk_some hk
      exact zr_weak h [0, 1, 2] rfl hk
    · have hk := zOk_f c hk
      refine zr_aload_n h dX10_settle_73 0 rfl rfl ?_
      refine zr_iload_n h dX10_settle_74 1 rfl rfl ?_
      refine zr_iload_n h dX10_settle_75 2 rfl rfl ?_
      refine zr_iload_n h dX10_settle_76 1 rfl rfl ?_
      refine zr_iload_n h dX10_settle_77 2 rfl rfl ?_
      refine zr_callVp h lC_59 zcw_X10_71 (by decide) (c_X10_goTogether E s.1 x1 s.2 x1 s.2 _ (zOk_bind hk)) rfl rfl (Nat.le_of_ble_eq_true rfl) dX10_settle_78 (fun r_78 hk => ?_)
      refine zr_if_eq (tgt := 97) h dX10_settle_81 (by decide) (fun c => ?_) (fun c => ?_)
      · have hk := zOk_t c hk
        obtain ⟨x2_97, ex⟩ : ∃ y : Int32, y = s.2 + (zI 1) := ⟨_, rfl⟩
        have hk := zOk_bnd ex hk
        refine zr_iinc (v := x2_97) (L' := [(0, zrf E 59), (1, .int x1), (2, .int x2_97)]) h 2 [1, 2, 0] dX10_settle_97 rfl (by rw [ex]; rfl) (by decide) rfl ?_
        refine zr_goto (tgt := 50) h dX10_settle_100 (by decide) ?_
        have hk := zOk_some hk
        exact zr_weak h [0, 1, 2] rfl hk
      · have hk := zOk_f c hk
        refine zr_aload_n h dX10_settle_84 0 rfl rfl ?_
        refine zr_getR h zfo_X10_15 lC_59 rfl dX10_settle_85 ?_
        refine zr_iconst (v := (zI 0)) h dX10_settle_88 rfl ?_
        refine zr_iload_n h dX10_settle_89 1 rfl rfl ?_
        refine zr_callSp h zcw_X10_75 (by decide) (c_X10_openAt E s.1 (zI 0) x1 _ (zOk_bind hk)) rfl rfl (Nat.le_of_ble_eq_true rfl) dX10_settle_90 (fun r_90 hk => ?_)
        refine zr_iload_n h dX10_settle_93 2 rfl rfl ?_
        refine zr_callSv h zcw_X10_79 (by decide) (c_X10_putBit E 61 48 lC_61 s.1 r_90 s.2 _ (zOk_bind hk)) rfl rfl (Nat.le_of_ble_eq_true rfl) dX10_settle_94 (fun M_94 hk => ?_)
        obtain ⟨x2_97, ex⟩ : ∃ y : Int32, y = s.2 + (zI 1) := ⟨_, rfl⟩
        have hk := zOk_bnd ex hk
        refine zr_iinc (v := x2_97) (L' := [(0, zrf E 59), (1, .int x1), (2, .int x2_97)]) h 2 [1, 2, 0] dX10_settle_97 rfl (by rw [ex]; rfl) (by decide) rfl ?_
        refine zr_goto (tgt := 50) h dX10_settle_100 (by decide) ?_
        have hk := zOk_some hk
        exact zr_weak h [0, 1, 2] rfl hk
noncomputable def f_X10_settle_L105 (x1 : Int32) (s : (ZMem × Int32)) : Option ((ZMem × Int32) ⊕ (ZMem)) := if x1 ≤ s.2 then some (.inr s.1) else zbind (f_X10_pairWords s.1 s.2 x1) (fun M_113 => zbnd (s.2 + (zI 1)) (fun x2_116 => some (.inl (M_113, x2_116))))
set_option maxRecDepth 100000 in
set_option maxHeartbeats 4000000 in
theorem w_X10_settle_L105 {E : ZEv} {G : ZG} {K : ZMem → Prop} (h : zRu lyC E G (zRv K) cX10_settle RX10 3 none 41) (x1 : Int32) (s : (ZMem × Int32)) (hk : zOk (zloop (f_X10_settle_L105 x1) s) (fun e => G e 122 [(0, zrf E 59), (1, .int x1)] [])) : G s.1 105 [(0, zrf E 59), (1, .int x1), (2, .int s.2)] [] := by
  refine zloop_walk (P := fun s => G s.1 105 [(0, zrf E 59), (1, .int x1), (2, .int s.2)] []) hk (fun s hk => ?_)
  unfold f_X10_settle_L105 at hk
  refine zr_iload_n h dX10_settle_105 2 rfl rfl ?_
  refine zr_iload_n h dX10_settle_106 1 rfl rfl ?_
  refine zr_icmp_ge (tgt := 122) h dX10_settle_107 (by decide) (fun c => ?_) (fun c => ?_)
  · have hk := zOk_t c hk
    have hk := zOk_some hk
    exact zr_weak h [0, 1] rfl hk
  · have hk := zOk_f c hk
    refine zr_aload_n h dX10_settle_110 0 rfl rfl ?_
    refine zr_iload_n h dX10_settle_111 2 rfl rfl ?_
    refine zr_iload_n h dX10_settle_112 1 rfl rfl ?_
    refine zr_callVv h lC_59 zcw_X10_83 (by decide) (c_X10_pairWords E s.1 s.2 x1 _ (zOk_bind hk)) rfl rfl (Nat.le_of_ble_eq_true rfl) dX10_settle_113 (fun M_113 hk => ?_)
    obtain ⟨x2_116, ex⟩ : ∃ y : Int32, y = s.2 + (zI 1) := ⟨_, rfl⟩
    have hk := zOk_bnd ex hk
    refine zr_iinc (v := x2_116) (L' := [(0, zrf E 59), (1, .int x1), (2, .int x2_116)]) h 2 [1, 2, 0] dX10_settle_116 rfl (by rw [ex]; rfl) (by decide) rfl ?_
    refine zr_goto (tgt := 105) h dX10_settle_119 (by decide) ?_
    have hk := zOk_some hk
    exact zr_weak h [0, 1, 2] rfl hk
noncomputable def f_X10_settle_L37 (s : (ZMem × Int32)) : Option ((ZMem × Int32) ⊕ (ZMem)) := zbind (f_X4_told s.1) (fun r_42 => if r_42 ≤ s.2 then some (.inr s.1) else zbind (zloop (f_X10_settle_L50 s.2) (s.1, (zI 0))) (fun e50 => zbind (zloop (f_X10_settle_L105 s.2) (e50, (zI 0))) (fun e105 => zbnd (s.2 + (zI 1)) (fun x1_122 => some (.inl (e105, x1_122))))))
set_option maxRecDepth 100000 in
set_option maxHeartbeats 4000000 in
theorem w_X10_settle_L37 {E : ZEv} {G : ZG} {K : ZMem → Prop} (h : zRu lyC E G (zRv K) cX10_settle RX10 3 none 41) (s : (ZMem × Int32)) (hk : zOk (zloop (f_X10_settle_L37) s) (fun e => G e 128 [(0, zrf E 59)] [])) : G s.1 37 [(0, zrf E 59), (1, .int s.2)] [] := by
  refine zloop_walk (P := fun s => G s.1 37 [(0, zrf E 59), (1, .int s.2)] []) hk (fun s hk => ?_)
  unfold f_X10_settle_L37 at hk
  refine zr_iload_n h dX10_settle_37 1 rfl rfl ?_
  refine zr_aload_n h dX10_settle_38 0 rfl rfl ?_
  refine zr_getR h zfo_X10_29 lC_59 rfl dX10_settle_39 ?_
  refine zr_callVp h lC_17 zcw_X10_44 (by decide) (c_X4_told E s.1 _ (zOk_bind hk)) rfl rfl (Nat.le_of_ble_eq_true rfl) dX10_settle_42 (fun r_42 hk => ?_)
  refine zr_icmp_ge (tgt := 128) h dX10_settle_45 (by decide) (fun c => ?_) (fun c => ?_)
  · have hk := zOk_t c hk
    have hk := zOk_some hk
    exact zr_weak h [0] rfl hk
  · have hk := zOk_f c hk
    refine zr_iconst (v := (zI 0)) h dX10_settle_48 rfl ?_
    refine zr_istore_n (L' := [(0, zrf E 59), (1, .int s.2), (2, .int (zI 0))]) h [1, 2, 0] dX10_settle_49 rfl (by decide) rfl ?_
    refine w_X10_settle_L50 h s.2 (s.1, (zI 0)) (zOk_mono (zOk_bind hk) (fun e50 hk => ?_))
    refine zr_iconst (v := (zI 0)) h dX10_settle_103 rfl ?_
    refine zr_istore_n (L' := [(0, zrf E 59), (1, .int s.2), (2, .int (zI 0))]) h [1, 2, 0] dX10_settle_104 rfl (by decide) rfl ?_
    refine w_X10_settle_L105 h s.2 (e50, (zI 0)) (zOk_mono (zOk_bind hk) (fun e105 hk => ?_))
    obtain ⟨x1_122, ex⟩ : ∃ y : Int32, y = s.2 + (zI 1) := ⟨_, rfl⟩
    have hk := zOk_bnd ex hk
    refine zr_iinc (v := x1_122) (L' := [(0, zrf E 59), (1, .int x1_122)]) h 1 [1, 0] dX10_settle_122 rfl (by rw [ex]; rfl) (by decide) rfl ?_
    refine zr_goto (tgt := 37) h dX10_settle_125 (by decide) ?_
    have hk := zOk_some hk
    exact zr_weak h [0, 1] rfl hk
noncomputable def f_X10_settle_16 (M : ZMem) (v1 : Int32) : Option ZMem := zbnd (zstI M 59 9 v1) (fun M_16 => zbind (f_J7_fill_d0a16 61 48 M_16 (0 : Int64)) (fun M_24 => zbind (f_J7_fill_d0a16 60 2160 M_24 (0 : Int64)) (fun M_32 => zbind (zloop (f_X10_settle_L37) (M_32, (zI 0))) (fun e37 => zbind (f_X10_chooseN 5 e37 (zI 0)) (fun M_130 => some M_130)))))
set_option maxRecDepth 100000 in
set_option maxHeartbeats 4000000 in
theorem w_X10_settle_16 {E : ZEv} {G : ZG} {K : ZMem → Prop} (h : zRu lyC E G (zRv K) cX10_settle RX10 3 none 41) (M : ZMem) (v1 : Int32) (hk : zOk (f_X10_settle_16 M v1) K) : G M 16 [(0, zrf E 59)] [.int v1, zrf E 59] := by
  unfold f_X10_settle_16 at hk
  refine zr_putI h zfp_X10_50 lC_59 rfl dX10_settle_16 ?_
  refine zr_mem (fun M_16 eM => ?_)
  have hk := zOk_bnd eM hk
  refine zr_aload_n h dX10_settle_19 0 rfl rfl ?_
  refine zr_getR h zfo_X10_15 lC_59 rfl dX10_settle_20 ?_
  refine zr_lconst (v := 0) h dX10_settle_23 (by decide) ?_
  refine zr_callSv h zcw_X10_54 (by decide) (c_J7_fill_d0a16 E 61 48 lC_61 M_16 (0 : Int64) _ (zOk_bind hk)) rfl rfl (Nat.le_of_ble_eq_true rfl) dX10_settle_24 (fun M_24 hk => ?_)
  refine zr_aload_n h dX10_settle_27 0 rfl rfl ?_
  refine zr_getR h zfo_X10_9 lC_59 rfl dX10_settle_28 ?_
  refine zr_lconst (v := 0) h dX10_settle_31 (by decide) ?_
  refine zr_callSv h zcw_X10_54 (by decide) (c_J7_fill_d0a16 E 60 2160 lC_60 M_24 (0 : Int64) _ (zOk_bind hk)) rfl rfl (Nat.le_of_ble_eq_true rfl) dX10_settle_32 (fun M_32 hk => ?_)
  refine zr_iconst (v := (zI 0)) h dX10_settle_35 rfl ?_
  refine zr_istore_n (L' := [(0, zrf E 59), (1, .int (zI 0))]) h [1, 0] dX10_settle_36 rfl (by decide) rfl ?_
  refine w_X10_settle_L37 h (M_32, (zI 0)) (zOk_mono (zOk_bind hk) (fun e37 hk => ?_))
  refine zr_aload_n h dX10_settle_128 0 rfl rfl ?_
  refine zr_iconst (v := (zI 0)) h dX10_settle_129 rfl ?_
  refine zr_callVv h lC_59 zcw_X10_87 (by decide) (c_X10_chooseN E e37 (zI 0) _ (zOk_bind hk)) rfl rfl (Nat.le_of_ble_eq_true rfl) dX10_settle_130 (fun M_130 hk => ?_)
  have hk := zOk_some hk
  exact zr_vret h dX10_settle_133 ⟨rfl, hk⟩
noncomputable def f_X10_settle (M : ZMem) : Option ZMem := zbind (f_X4_told M) (fun r_5 => if r_5 = (zI 0) then f_X10_settle_16 M (zI 1) else f_X10_settle_16 M (zI 0))
set_option maxRecDepth 100000 in
set_option maxHeartbeats 4000000 in
theorem c_X10_settle (E : ZEv) (M : ZMem) (K : ZMem → Prop) (hk : zOk (f_X10_settle M) K) : zCon lyC E yX10_settle cX10_settle 3 none 41 [zrf E 59] M (zRv K) := by
  refine zcon_of (L0 := [(0, zrf E 59)]) (by decide) rfl (Nat.le_of_ble_eq_true rfl) (fun G h => ?_)
  have h : zRu lyC E G (zRv K) cX10_settle RX10 3 none 41 := h
  unfold f_X10_settle at hk
  refine zr_aload_n h dX10_settle_0 0 rfl rfl ?_
  refine zr_aload_n h dX10_settle_1 0 rfl rfl ?_
  refine zr_getR h zfo_X10_29 lC_59 rfl dX10_settle_2 ?_
  refine zr_callVp h lC_17 zcw_X10_44 (by decide) (c_X4_told E M _ (zOk_bind hk)) rfl rfl (Nat.le_of_ble_eq_true rfl) dX10_settle_5 (fun r_5 hk => ?_)
  refine zr_if_ne (tgt := 15) h dX10_settle_8 (by decide) (fun c => ?_) (fun c => ?_)
  · have hk := zOk_t c hk
    refine zr_iconst (v := (zI 1)) h dX10_settle_11 rfl ?_
    refine zr_goto (tgt := 16) h dX10_settle_12 (by decide) ?_
    exact w_X10_settle_16 h M (zI 1) hk
  · have hk := zOk_f c hk
    refine zr_iconst (v := (zI 0)) h dX10_settle_15 rfl ?_
    exact w_X10_settle_16 h M (zI 0) hk
theorem dX10_found_0 : decode cX10_found 0 = .ok (.aload_n 0, 1) := by decide +kernel
theorem dX10_found_1 : decode cX10_found 1 = .ok (.getfield 50, 3) := by decide +kernel
theorem dX10_found_4 : decode cX10_found 4 = .ok (.ireturn, 1) := by decide +kernel
noncomputable def f_X10_found (M : ZMem) : Option Int32 := some (M.1 59 9)
set_option maxRecDepth 100000 in
set_option maxHeartbeats 4000000 in
theorem c_X10_found (E : ZEv) (M : ZMem) (K : Int32 → Prop) (hk : zOk (f_X10_found M) K) : zCon lyC E yX10_found cX10_found 1 (some .int) 0 [zrf E 59] M (zRp M K) := by
  refine zcon_of (L0 := [(0, zrf E 59)]) (by decide) rfl (Nat.le_of_ble_eq_true rfl) (fun G h => ?_)
  have h : zRu lyC E G (zRp M K) cX10_found RX10 1 (some .int) 0 := h
  unfold f_X10_found at hk
  refine zr_aload_n h dX10_found_0 0 rfl rfl ?_
  refine zr_getI h zfo_X10_50 lC_59 rfl dX10_found_1 ?_
  have hk := zOk_some hk
  exact zr_iret h dX10_found_4 ⟨rfl, _, rfl, hk⟩
theorem dX10_firstWord_0 : decode cX10_firstWord 0 = .ok (.aload_n 0, 1) := by decide +kernel
theorem dX10_firstWord_1 : decode cX10_firstWord 1 = .ok (.getfield 50, 3) := by decide +kernel
theorem dX10_firstWord_4 : decode cX10_firstWord 4 = .ok (.ifCond .le 21, 3) := by decide +kernel
theorem dX10_firstWord_7 : decode cX10_firstWord 7 = .ok (.iload_n 1, 1) := by decide +kernel
theorem dX10_firstWord_8 : decode cX10_firstWord 8 = .ok (.ifCond .lt 17, 3) := by decide +kernel
theorem dX10_firstWord_11 : decode cX10_firstWord 11 = .ok (.iload_n 1, 1) := by decide +kernel
theorem dX10_firstWord_12 : decode cX10_firstWord 12 = .ok (.iconst 4, 1) := by decide +kernel
theorem dX10_firstWord_13 : decode cX10_firstWord 13 = .ok (.if_icmp .ge 12, 3) := by decide +kernel
theorem dX10_firstWord_16 : decode cX10_firstWord 16 = .ok (.aload_n 0, 1) := by decide +kernel
theorem dX10_firstWord_17 : decode cX10_firstWord 17 = .ok (.getfield 22, 3) := by decide +kernel
theorem dX10_firstWord_20 : decode cX10_firstWord 20 = .ok (.iload_n 1, 1) := by decide +kernel
theorem dX10_firstWord_21 : decode cX10_firstWord 21 = .ok (.iaload, 1) := by decide +kernel
theorem dX10_firstWord_22 : decode cX10_firstWord 22 = .ok (.goto 5, 3) := by decide +kernel
theorem dX10_firstWord_25 : decode cX10_firstWord 25 = .ok (.bipush (-2), 2) := by decide +kernel
theorem dX10_firstWord_27 : decode cX10_firstWord 27 = .ok (.ireturn, 1) := by decide +kernel
noncomputable def f_X10_firstWord (M : ZMem) (x1 : Int32) : Option Int32 := if (M.1 59 9) ≤ (zI 0) then some (zI (-2)) else if x1 < (zI 0) then some (zI (-2)) else if (zI 4) ≤ x1 then some (zI (-2)) else zchk (zin x1 4) (some (M.1 63 (zix x1)))
set_option maxRecDepth 100000 in
set_option maxHeartbeats 4000000 in
theorem c_X10_firstWord (E : ZEv) (M : ZMem) (x1 : Int32) (K : Int32 → Prop) (hk : zOk (f_X10_firstWord M x1) K) : zCon lyC E yX10_firstWord cX10_firstWord 2 (some .int) 0 [zrf E 59, .int x1] M (zRp M K) := by
  refine zcon_of (L0 := [(0, zrf E 59), (1, .int x1)]) (by decide) rfl (Nat.le_of_ble_eq_true rfl) (fun G h => ?_)
  have h : zRu lyC E G (zRp M K) cX10_firstWord RX10 2 (some .int) 0 := h
  unfold f_X10_firstWord at hk
  refine zr_aload_n h dX10_firstWord_0 0 rfl rfl ?_
  refine zr_getI h zfo_X10_50 lC_59 rfl dX10_firstWord_1 ?_
  refine zr_if_le (tgt := 25) h dX10_firstWord_4 (by decide) (fun c => ?_) (fun c => ?_)
  · have hk := zOk_t c hk
    refine zr_bipush (v := (zI (-2))) h dX10_firstWord_25 (by decide) ?_
    have hk := zOk_some hk
    exact zr_iret h dX10_firstWord_27 ⟨rfl, _, rfl, hk⟩
  · have hk := zOk_f c hk
    refine zr_iload_n h dX10_firstWord_7 1 rfl rfl ?_
    refine zr_if_lt (tgt := 25) h dX10_firstWord_8 (by decide) (fun c => ?_) (fun c => ?_)
    · have hk := zOk_t c hk
      refine zr_bipush (v := (zI (-2))) h dX10_firstWord_25 (by decide) ?_
      have hk := zOk_some hk
      exact zr_iret h dX10_firstWord_27 ⟨rfl, _, rfl, hk⟩
    · have hk := zOk_f c hk
      refine zr_iload_n h dX10_firstWord_11 1 rfl rfl ?_
      refine zr_iconst (v := (zI 4)) h dX10_firstWord_12 rfl ?_
      refine zr_icmp_ge (tgt := 25) h dX10_firstWord_13 (by decide) (fun c => ?_) (fun c => ?_)
      · have hk := zOk_t c hk
        refine zr_bipush (v := (zI (-2))) h dX10_firstWord_25 (by decide) ?_
        have hk := zOk_some hk
        exact zr_iret h dX10_firstWord_27 ⟨rfl, _, rfl, hk⟩
      · have hk := zOk_f c hk
        refine zr_aload_n h dX10_firstWord_16 0 rfl rfl ?_
        refine zr_getR h zfo_X10_22 lC_59 rfl dX10_firstWord_17 ?_
        refine zr_iload_n h dX10_firstWord_20 1 rfl rfl ?_
        have hb := zOk_chk hk
        have hk := hb.2
        refine zr_iald h lC_63 hb.1 dX10_firstWord_21 ?_
        refine zr_goto (tgt := 27) h dX10_firstWord_22 (by decide) ?_
        have hk := zOk_some hk
        exact zr_iret h dX10_firstWord_27 ⟨rfl, _, rfl, hk⟩
