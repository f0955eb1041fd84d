theorem dX2_shiftOf_0 : decode cX2_shiftOf 0 = .ok (.iconst 5, 1) := by decide +kernel
theorem dX2_shiftOf_1 : decode cX2_shiftOf 1 = .ok (.bipush 6, 2) := by decide +kernel
theorem dX2_shiftOf_3 : decode cX2_shiftOf 3 = .ok (.iload_n 0, 1) := by decide +kernel
theorem dX2_shiftOf_4 : decode cX2_shiftOf 4 = .ok (.isub, 1) := by decide +kernel
theorem dX2_shiftOf_5 : decode cX2_shiftOf 5 = .ok (.imul, 1) := by decide +kernel
theorem dX2_shiftOf_6 : decode cX2_shiftOf 6 = .ok (.ireturn, 1) := by decide +kernel
noncomputable def f_X2_shiftOf (M : ZMem) (x0 : Int32) : Option Int32 := some ((zI 5) * ((zI 6) - x0))
set_option maxRecDepth 100000 in
set_option maxHeartbeats 4000000 in
theorem c_X2_shiftOf {ly : List ZEnt} (E : ZEv) (M : ZMem) (x0 : Int32) (K : Int32 → Prop) (hk : zOk (f_X2_shiftOf M x0) K) : zCon ly E yX2_shiftOf cX2_shiftOf 1 (some .int) 0 [.int x0] M (zRp M K) := by
  refine zcon_of (L0 := [(0, .int x0)]) (by decide) rfl (Nat.le_of_ble_eq_true rfl) (fun G h => ?_)
  have h : zRu ly E G (zRp M K) cX2_shiftOf RX2 1 (some .int) 0 := h
  unfold f_X2_shiftOf at hk
  refine zr_iconst (v := (zI 5)) h dX2_shiftOf_0 rfl ?_
  refine zr_bipush (v := (zI 6)) h dX2_shiftOf_1 (by decide) ?_
  refine zr_iload_n h dX2_shiftOf_3 0 rfl rfl ?_
  refine zr_isub h dX2_shiftOf_4 ?_
  refine zr_imul h dX2_shiftOf_5 ?_
  have hk := zOk_some hk
  exact zr_iret h dX2_shiftOf_6 ⟨rfl, _, rfl, hk⟩
theorem dX2_signOfKey_0 : decode cX2_signOfKey 0 = .ok (.iload_n 2, 1) := by decide +kernel
theorem dX2_signOfKey_1 : decode cX2_signOfKey 1 = .ok (.ifCond .lt 13, 3) := by decide +kernel
theorem dX2_signOfKey_4 : decode cX2_signOfKey 4 = .ok (.iload_n 2, 1) := by decide +kernel
theorem dX2_signOfKey_5 : decode cX2_signOfKey 5 = .ok (.bipush 7, 2) := by decide +kernel
theorem dX2_signOfKey_7 : decode cX2_signOfKey 7 = .ok (.if_icmp .ge 7, 3) := by decide +kernel
theorem dX2_signOfKey_10 : decode cX2_signOfKey 10 = .ok (.iconst 1, 1) := by decide +kernel
theorem dX2_signOfKey_11 : decode cX2_signOfKey 11 = .ok (.goto 4, 3) := by decide +kernel
theorem dX2_signOfKey_14 : decode cX2_signOfKey 14 = .ok (.iconst 0, 1) := by decide +kernel
theorem dX2_signOfKey_15 : decode cX2_signOfKey 15 = .ok (.istore_n 3, 1) := by decide +kernel
theorem dX2_signOfKey_16 : decode cX2_signOfKey 16 = .ok (.iload_n 3, 1) := by decide +kernel
theorem dX2_signOfKey_17 : decode cX2_signOfKey 17 = .ok (.ifCond .eq 21, 3) := by decide +kernel
theorem dX2_signOfKey_20 : decode cX2_signOfKey 20 = .ok (.lload_n 0, 1) := by decide +kernel
theorem dX2_signOfKey_21 : decode cX2_signOfKey 21 = .ok (.iconst 5, 1) := by decide +kernel
theorem dX2_signOfKey_22 : decode cX2_signOfKey 22 = .ok (.bipush 6, 2) := by decide +kernel
theorem dX2_signOfKey_24 : decode cX2_signOfKey 24 = .ok (.iload_n 2, 1) := by decide +kernel
theorem dX2_signOfKey_25 : decode cX2_signOfKey 25 = .ok (.isub, 1) := by decide +kernel
theorem dX2_signOfKey_26 : decode cX2_signOfKey 26 = .ok (.imul, 1) := by decide +kernel
theorem dX2_signOfKey_27 : decode cX2_signOfKey 27 = .ok (.lushr, 1) := by decide +kernel
theorem dX2_signOfKey_28 : decode cX2_signOfKey 28 = .ok (.ldc2_w 31, 3) := by decide +kernel
theorem dX2_signOfKey_31 : decode cX2_signOfKey 31 = .ok (.land, 1) := by decide +kernel
theorem dX2_signOfKey_32 : decode cX2_signOfKey 32 = .ok (.l2i, 1) := by decide +kernel
theorem dX2_signOfKey_33 : decode cX2_signOfKey 33 = .ok (.iconst 1, 1) := by decide +kernel
theorem dX2_signOfKey_34 : decode cX2_signOfKey 34 = .ok (.isub, 1) := by decide +kernel
theorem dX2_signOfKey_35 : decode cX2_signOfKey 35 = .ok (.goto 4, 3) := by decide +kernel
theorem dX2_signOfKey_38 : decode cX2_signOfKey 38 = .ok (.iconst (-1), 1) := by decide +kernel
theorem dX2_signOfKey_39 : decode cX2_signOfKey 39 = .ok (.ireturn, 1) := by decide +kernel
noncomputable def f_X2_signOfKey_15 (M : ZMem) (x0 : Int64) (x2 : Int32) (v0 : Int32) : Option Int32 := if v0 = (zI 0) then some (zI (-1)) else some (((((zlushr x0 ((zI 5) * ((zI 6) - x2))) &&& (31 : Int64)) : Int64).toInt32) - (zI 1))
set_option maxRecDepth 100000 in
set_option maxHeartbeats 4000000 in
theorem w_X2_signOfKey_15 {ly : List ZEnt} {E : ZEv} {G : ZG} {K : Int32 → Prop} (M : ZMem) (h : zRu ly E G (zRp M K) cX2_signOfKey RX2 4 (some .int) 0) (x0 : Int64) (x2 : Int32) (v0 : Int32) (hk : zOk (f_X2_signOfKey_15 M x0 x2 v0) K) : G M 15 [(0, .long x0), (2, .int x2)] [.int v0] := by
  unfold f_X2_signOfKey_15 at hk
  refine zr_istore_n (L' := [(0, .long x0), (2, .int x2), (3, .int v0)]) h [1, 2, 0] dX2_signOfKey_15 rfl (by decide) rfl ?_
  refine zr_iload_n h dX2_signOfKey_16 2 rfl rfl ?_
  refine zr_if_eq (tgt := 38) h dX2_signOfKey_17 (by decide) (fun c => ?_) (fun c => ?_)
  · have hk := zOk_t c hk
    refine zr_iconst (v := (zI (-1))) h dX2_signOfKey_38 rfl ?_
    have hk := zOk_some hk
    exact zr_iret h dX2_signOfKey_39 ⟨rfl, _, rfl, hk⟩
  · have hk := zOk_f c hk
    refine zr_lload_n h dX2_signOfKey_20 0 rfl rfl ?_
    refine zr_iconst (v := (zI 5)) h dX2_signOfKey_21 rfl ?_
    refine zr_bipush (v := (zI 6)) h dX2_signOfKey_22 (by decide) ?_
    refine zr_iload_n h dX2_signOfKey_24 1 rfl rfl ?_
    refine zr_isub h dX2_signOfKey_25 ?_
    refine zr_imul h dX2_signOfKey_26 ?_
    refine zr_lushr h dX2_signOfKey_27 ?_
    refine zr_ldc2 (v := 31) h dX2_signOfKey_28 (zm_33 _ (List.mem_of_getElem? (i := 4) rfl)) ?_
    refine zr_land h dX2_signOfKey_31 ?_
    refine zr_l2i h dX2_signOfKey_32 ?_
    refine zr_iconst (v := (zI 1)) h dX2_signOfKey_33 rfl ?_
    refine zr_isub h dX2_signOfKey_34 ?_
    refine zr_goto (tgt := 39) h dX2_signOfKey_35 (by decide) ?_
    have hk := zOk_some hk
    exact zr_iret h dX2_signOfKey_39 ⟨rfl, _, rfl, hk⟩
noncomputable def f_X2_signOfKey_14 (M : ZMem) (x0 : Int64) (x2 : Int32) : Option Int32 := f_X2_signOfKey_15 M x0 x2 (zI 0)
set_option maxRecDepth 100000 in
set_option maxHeartbeats 4000000 in
theorem w_X2_signOfKey_14 {ly : List ZEnt} {E : ZEv} {G : ZG} {K : Int32 → Prop} (M : ZMem) (h : zRu ly E G (zRp M K) cX2_signOfKey RX2 4 (some .int) 0) (x0 : Int64) (x2 : Int32) (hk : zOk (f_X2_signOfKey_14 M x0 x2) K) : G M 14 [(0, .long x0), (2, .int x2)] [] := by
  unfold f_X2_signOfKey_14 at hk
  refine zr_iconst (v := (zI 0)) h dX2_signOfKey_14 rfl ?_
  exact w_X2_signOfKey_15 M h x0 x2 (zI 0) hk
noncomputable def f_X2_signOfKey (M : ZMem) (x0 : Int64) (x2 : Int32) : Option Int32 := if x2 < (zI 0) then f_X2_signOfKey_14 M x0 x2 else if (zI 7) ≤ x2 then f_X2_signOfKey_14 M x0 x2 else f_X2_signOfKey_15 M x0 x2 (zI 1)
set_option maxRecDepth 100000 in
set_option maxHeartbeats 4000000 in
theorem c_X2_signOfKey {ly : List ZEnt} (E : ZEv) (M : ZMem) (x0 : Int64) (x2 : Int32) (K : Int32 → Prop) (hk : zOk (f_X2_signOfKey M x0 x2) K) : zCon ly E yX2_signOfKey cX2_signOfKey 4 (some .int) 0 [.long x0, .int x2] M (zRp M K) := by
  refine zcon_of (L0 := [(0, .long x0), (2, .int x2)]) (by decide) rfl (Nat.le_of_ble_eq_true rfl) (fun G h => ?_)
  have h : zRu ly E G (zRp M K) cX2_signOfKey RX2 4 (some .int) 0 := h
  unfold f_X2_signOfKey at hk
  refine zr_iload_n h dX2_signOfKey_0 1 rfl rfl ?_
  refine zr_if_lt (tgt := 14) h dX2_signOfKey_1 (by decide) (fun c => ?_) (fun c => ?_)
  · have hk := zOk_t c hk
    exact w_X2_signOfKey_14 M h x0 x2 hk
  · have hk := zOk_f c hk
    refine zr_iload_n h dX2_signOfKey_4 1 rfl rfl ?_
    refine zr_bipush (v := (zI 7)) h dX2_signOfKey_5 (by decide) ?_
    refine zr_icmp_ge (tgt := 14) h dX2_signOfKey_7 (by decide) (fun c => ?_) (fun c => ?_)
    · have hk := zOk_t c hk
      exact w_X2_signOfKey_14 M h x0 x2 hk
    · have hk := zOk_f c hk
      refine zr_iconst (v := (zI 1)) h dX2_signOfKey_10 rfl ?_
      refine zr_goto (tgt := 15) h dX2_signOfKey_11 (by decide) ?_
      exact w_X2_signOfKey_15 M h x0 x2 (zI 1) hk
theorem dX2_lengthOfKey_0 : decode cX2_lengthOfKey 0 = .ok (.iconst 0, 1) := by decide +kernel
theorem dX2_lengthOfKey_1 : decode cX2_lengthOfKey 1 = .ok (.istore_n 2, 1) := by decide +kernel
theorem dX2_lengthOfKey_2 : decode cX2_lengthOfKey 2 = .ok (.iload_n 2, 1) := by decide +kernel
theorem dX2_lengthOfKey_3 : decode cX2_lengthOfKey 3 = .ok (.bipush 7, 2) := by decide +kernel
theorem dX2_lengthOfKey_5 : decode cX2_lengthOfKey 5 = .ok (.if_icmp .ge 18, 3) := by decide +kernel
theorem dX2_lengthOfKey_8 : decode cX2_lengthOfKey 8 = .ok (.lload_n 0, 1) := by decide +kernel
theorem dX2_lengthOfKey_9 : decode cX2_lengthOfKey 9 = .ok (.iload_n 2, 1) := by decide +kernel
theorem dX2_lengthOfKey_10 : decode cX2_lengthOfKey 10 = .ok (.invokestatic 33, 3) := by decide +kernel
theorem dX2_lengthOfKey_13 : decode cX2_lengthOfKey 13 = .ok (.iconst (-1), 1) := by decide +kernel
theorem dX2_lengthOfKey_14 : decode cX2_lengthOfKey 14 = .ok (.if_icmp .eq 9, 3) := by decide +kernel
theorem dX2_lengthOfKey_17 : decode cX2_lengthOfKey 17 = .ok (.iinc 2 1, 3) := by decide +kernel
theorem dX2_lengthOfKey_20 : decode cX2_lengthOfKey 20 = .ok (.goto (-18), 3) := by decide +kernel
theorem dX2_lengthOfKey_23 : decode cX2_lengthOfKey 23 = .ok (.iload_n 2, 1) := by decide +kernel
theorem dX2_lengthOfKey_24 : decode cX2_lengthOfKey 24 = .ok (.ireturn, 1) := by decide +kernel
noncomputable def f_X2_lengthOfKey_L2 (M : ZMem) (x0 : Int64) (s : (Int32)) : Option ((Int32) ⊕ (Int32)) := if (zI 7) ≤ s then some (.inr s) else zbind (f_X2_signOfKey M x0 s) (fun r_10 => if r_10 = (zI (-1)) then some (.inr s) else zbnd (s + (zI 1)) (fun x2_17 => some (.inl x2_17)))
set_option maxRecDepth 100000 in
set_option maxHeartbeats 4000000 in
theorem w_X2_lengthOfKey_L2 {ly : List ZEnt} {E : ZEv} {G : ZG} {K : Int32 → Prop} (M : ZMem) (h : zRu ly E G (zRp M K) cX2_lengthOfKey RX2 3 (some .int) 1) (x0 : Int64) (s : (Int32)) (hk : zOk (zloop (f_X2_lengthOfKey_L2 M x0) s) (fun e => G M 23 [(2, .int e)] [])) : G M 2 [(0, .long x0), (2, .int s)] [] := by
  refine zloop_walk (P := fun s => G M 2 [(0, .long x0), (2, .int s)] []) hk (fun s hk => ?_)
  unfold f_X2_lengthOfKey_L2 at hk
  refine zr_iload_n h dX2_lengthOfKey_2 1 rfl rfl ?_
  refine zr_bipush (v := (zI 7)) h dX2_lengthOfKey_3 (by decide) ?_
  refine zr_icmp_ge (tgt := 23) h dX2_lengthOfKey_5 (by decide) (fun c => ?_) (fun c => ?_)
  · have hk := zOk_t c hk
    have hk := zOk_some hk
    exact zr_weak h [1] rfl hk
  · have hk := zOk_f c hk
    refine zr_lload_n h dX2_lengthOfKey_8 0 rfl rfl ?_
    refine zr_iload_n h dX2_lengthOfKey_9 1 rfl rfl ?_
    refine zr_callSp h zcw_X2_33 (by decide) (c_X2_signOfKey E M x0 s _ (zOk_bind hk)) rfl rfl (Nat.le_of_ble_eq_true rfl) dX2_lengthOfKey_10 (fun r_10 hk => ?_)
    refine zr_iconst (v := (zI (-1))) h dX2_lengthOfKey_13 rfl ?_
    refine zr_icmp_eq (tgt := 23) h dX2_lengthOfKey_14 (by decide) (fun c => ?_) (fun c => ?_)
    · have hk := zOk_t c hk
      have hk := zOk_some hk
      exact zr_weak h [1] rfl hk
    · have hk := zOk_f c hk
      obtain ⟨x2_17, ex⟩ : ∃ y : Int32, y = s + (zI 1) := ⟨_, rfl⟩
      have hk := zOk_bnd ex hk
      refine zr_iinc (v := x2_17) (L' := [(0, .long x0), (2, .int x2_17)]) h 1 [1, 0] dX2_lengthOfKey_17 rfl (by rw [ex]; rfl) (by decide) rfl ?_
      refine zr_goto (tgt := 2) h dX2_lengthOfKey_20 (by decide) ?_
      have hk := zOk_some hk
      exact zr_weak h [0, 1] rfl hk
noncomputable def f_X2_lengthOfKey (M : ZMem) (x0 : Int64) : Option Int32 := zbind (zloop (f_X2_lengthOfKey_L2 M x0) (zI 0)) (fun e2 => some e2)
set_option maxRecDepth 100000 in
set_option maxHeartbeats 4000000 in
theorem c_X2_lengthOfKey {ly : List ZEnt} (E : ZEv) (M : ZMem) (x0 : Int64) (K : Int32 → Prop) (hk : zOk (f_X2_lengthOfKey M x0) K) : zCon ly E yX2_lengthOfKey cX2_lengthOfKey 3 (some .int) 1 [.long x0] M (zRp M K) := by
  refine zcon_of (L0 := [(0, .long x0)]) (by decide) rfl (Nat.le_of_ble_eq_true rfl) (fun G h => ?_)
  have h : zRu ly E G (zRp M K) cX2_lengthOfKey RX2 3 (some .int) 1 := h
  unfold f_X2_lengthOfKey at hk
  refine zr_iconst (v := (zI 0)) h dX2_lengthOfKey_0 rfl ?_
  refine zr_istore_n (L' := [(0, .long x0), (2, .int (zI 0))]) h [1, 0] dX2_lengthOfKey_1 rfl (by decide) rfl ?_
  refine w_X2_lengthOfKey_L2 M h x0 (zI 0) (zOk_mono (zOk_bind hk) (fun e2 hk => ?_))
  refine zr_iload_n h dX2_lengthOfKey_23 0 rfl rfl ?_
  have hk := zOk_some hk
  exact zr_iret h dX2_lengthOfKey_24 ⟨rfl, _, rfl, hk⟩
theorem dX2_enter_0 : decode cX2_enter 0 = .ok (.aload_n 0, 1) := by decide +kernel
theorem dX2_enter_1 : decode cX2_enter 1 = .ok (.dup, 1) := by decide +kernel
theorem dX2_enter_2 : decode cX2_enter 2 = .ok (.getfield 41, 3) := by decide +kernel
theorem dX2_enter_5 : decode cX2_enter 5 = .ok (.iconst 1, 1) := by decide +kernel
theorem dX2_enter_6 : decode cX2_enter 6 = .ok (.iadd, 1) := by decide +kernel
theorem dX2_enter_7 : decode cX2_enter 7 = .ok (.putfield 41, 3) := by decide +kernel
theorem dX2_enter_10 : decode cX2_enter 10 = .ok (.iconst 0, 1) := by decide +kernel
theorem dX2_enter_11 : decode cX2_enter 11 = .ok (.istore_n 3, 1) := by decide +kernel
theorem dX2_enter_12 : decode cX2_enter 12 = .ok (.iload_n 3, 1) := by decide +kernel
theorem dX2_enter_13 : decode cX2_enter 13 = .ok (.aload_n 0, 1) := by decide +kernel
theorem dX2_enter_14 : decode cX2_enter 14 = .ok (.getfield 37, 3) := by decide +kernel
theorem dX2_enter_17 : decode cX2_enter 17 = .ok (.if_icmp .ge 20, 3) := by decide +kernel
theorem dX2_enter_20 : decode cX2_enter 20 = .ok (.aload_n 0, 1) := by decide +kernel
theorem dX2_enter_21 : decode cX2_enter 21 = .ok (.getfield 9, 3) := by decide +kernel
theorem dX2_enter_24 : decode cX2_enter 24 = .ok (.iload_n 3, 1) := by decide +kernel
theorem dX2_enter_25 : decode cX2_enter 25 = .ok (.laload, 1) := by decide +kernel
theorem dX2_enter_26 : decode cX2_enter 26 = .ok (.lload_n 1, 1) := by decide +kernel
theorem dX2_enter_27 : decode cX2_enter 27 = .ok (.lcmp, 1) := by decide +kernel
theorem dX2_enter_28 : decode cX2_enter 28 = .ok (.ifCond .ge 9, 3) := by decide +kernel
theorem dX2_enter_31 : decode cX2_enter 31 = .ok (.iinc 3 1, 3) := by decide +kernel
theorem dX2_enter_34 : decode cX2_enter 34 = .ok (.goto (-22), 3) := by decide +kernel
theorem dX2_enter_37 : decode cX2_enter 37 = .ok (.iload_n 3, 1) := by decide +kernel
theorem dX2_enter_38 : decode cX2_enter 38 = .ok (.aload_n 0, 1) := by decide +kernel
theorem dX2_enter_39 : decode cX2_enter 39 = .ok (.getfield 37, 3) := by decide +kernel
theorem dX2_enter_42 : decode cX2_enter 42 = .ok (.if_icmp .ge 27, 3) := by decide +kernel
theorem dX2_enter_45 : decode cX2_enter 45 = .ok (.aload_n 0, 1) := by decide +kernel
theorem dX2_enter_46 : decode cX2_enter 46 = .ok (.getfield 9, 3) := by decide +kernel
theorem dX2_enter_49 : decode cX2_enter 49 = .ok (.iload_n 3, 1) := by decide +kernel
theorem dX2_enter_50 : decode cX2_enter 50 = .ok (.laload, 1) := by decide +kernel
theorem dX2_enter_51 : decode cX2_enter 51 = .ok (.lload_n 1, 1) := by decide +kernel
theorem dX2_enter_52 : decode cX2_enter 52 = .ok (.lcmp, 1) := by decide +kernel
theorem dX2_enter_53 : decode cX2_enter 53 = .ok (.ifCond .ne 16, 3) := by decide +kernel
theorem dX2_enter_56 : decode cX2_enter 56 = .ok (.aload_n 0, 1) := by decide +kernel
theorem dX2_enter_57 : decode cX2_enter 57 = .ok (.getfield 15, 3) := by decide +kernel
theorem dX2_enter_60 : decode cX2_enter 60 = .ok (.iload_n 3, 1) := by decide +kernel
theorem dX2_enter_61 : decode cX2_enter 61 = .ok (.dup2, 1) := by decide +kernel
theorem dX2_enter_62 : decode cX2_enter 62 = .ok (.iaload, 1) := by decide +kernel
theorem dX2_enter_63 : decode cX2_enter 63 = .ok (.iconst 1, 1) := by decide +kernel
theorem dX2_enter_64 : decode cX2_enter 64 = .ok (.iadd, 1) := by decide +kernel
theorem dX2_enter_65 : decode cX2_enter 65 = .ok (.iastore, 1) := by decide +kernel
theorem dX2_enter_66 : decode cX2_enter 66 = .ok (.goto 78, 3) := by decide +kernel
theorem dX2_enter_69 : decode cX2_enter 69 = .ok (.aload_n 0, 1) := by decide +kernel
theorem dX2_enter_70 : decode cX2_enter 70 = .ok (.getfield 37, 3) := by decide +kernel
theorem dX2_enter_73 : decode cX2_enter 73 = .ok (.bipush 120, 2) := by decide +kernel
theorem dX2_enter_75 : decode cX2_enter 75 = .ok (.if_icmp .ge 69, 3) := by decide +kernel
theorem dX2_enter_78 : decode cX2_enter 78 = .ok (.aload_n 0, 1) := by decide +kernel
theorem dX2_enter_79 : decode cX2_enter 79 = .ok (.getfield 9, 3) := by decide +kernel
theorem dX2_enter_82 : decode cX2_enter 82 = .ok (.iload_n 3, 1) := by decide +kernel
theorem dX2_enter_83 : decode cX2_enter 83 = .ok (.aload_n 0, 1) := by decide +kernel
theorem dX2_enter_84 : decode cX2_enter 84 = .ok (.getfield 9, 3) := by decide +kernel
theorem dX2_enter_87 : decode cX2_enter 87 = .ok (.iload_n 3, 1) := by decide +kernel
theorem dX2_enter_88 : decode cX2_enter 88 = .ok (.iconst 1, 1) := by decide +kernel
theorem dX2_enter_89 : decode cX2_enter 89 = .ok (.iadd, 1) := by decide +kernel
theorem dX2_enter_90 : decode cX2_enter 90 = .ok (.aload_n 0, 1) := by decide +kernel
theorem dX2_enter_91 : decode cX2_enter 91 = .ok (.getfield 37, 3) := by decide +kernel
theorem dX2_enter_94 : decode cX2_enter 94 = .ok (.iload_n 3, 1) := by decide +kernel
theorem dX2_enter_95 : decode cX2_enter 95 = .ok (.isub, 1) := by decide +kernel
theorem dX2_enter_96 : decode cX2_enter 96 = .ok (.invokestatic 81, 3) := by decide +kernel
theorem dX2_enter_99 : decode cX2_enter 99 = .ok (.aload_n 0, 1) := by decide +kernel
theorem dX2_enter_100 : decode cX2_enter 100 = .ok (.getfield 15, 3) := by decide +kernel
theorem dX2_enter_103 : decode cX2_enter 103 = .ok (.iload_n 3, 1) := by decide +kernel
theorem dX2_enter_104 : decode cX2_enter 104 = .ok (.aload_n 0, 1) := by decide +kernel
theorem dX2_enter_105 : decode cX2_enter 105 = .ok (.getfield 15, 3) := by decide +kernel
theorem dX2_enter_108 : decode cX2_enter 108 = .ok (.iload_n 3, 1) := by decide +kernel
theorem dX2_enter_109 : decode cX2_enter 109 = .ok (.iconst 1, 1) := by decide +kernel
theorem dX2_enter_110 : decode cX2_enter 110 = .ok (.iadd, 1) := by decide +kernel
theorem dX2_enter_111 : decode cX2_enter 111 = .ok (.aload_n 0, 1) := by decide +kernel
theorem dX2_enter_112 : decode cX2_enter 112 = .ok (.getfield 37, 3) := by decide +kernel
theorem dX2_enter_115 : decode cX2_enter 115 = .ok (.iload_n 3, 1) := by decide +kernel
theorem dX2_enter_116 : decode cX2_enter 116 = .ok (.isub, 1) := by decide +kernel
theorem dX2_enter_117 : decode cX2_enter 117 = .ok (.invokestatic 81, 3) := by decide +kernel
theorem dX2_enter_120 : decode cX2_enter 120 = .ok (.aload_n 0, 1) := by decide +kernel
theorem dX2_enter_121 : decode cX2_enter 121 = .ok (.getfield 9, 3) := by decide +kernel
theorem dX2_enter_124 : decode cX2_enter 124 = .ok (.iload_n 3, 1) := by decide +kernel
theorem dX2_enter_125 : decode cX2_enter 125 = .ok (.lload_n 1, 1) := by decide +kernel
theorem dX2_enter_126 : decode cX2_enter 126 = .ok (.lastore, 1) := by decide +kernel
theorem dX2_enter_127 : decode cX2_enter 127 = .ok (.aload_n 0, 1) := by decide +kernel
theorem dX2_enter_128 : decode cX2_enter 128 = .ok (.getfield 15, 3) := by decide +kernel
theorem dX2_enter_131 : decode cX2_enter 131 = .ok (.iload_n 3, 1) := by decide +kernel
theorem dX2_enter_132 : decode cX2_enter 132 = .ok (.iconst 1, 1) := by decide +kernel
theorem dX2_enter_133 : decode cX2_enter 133 = .ok (.iastore, 1) := by decide +kernel
theorem dX2_enter_134 : decode cX2_enter 134 = .ok (.aload_n 0, 1) := by decide +kernel
theorem dX2_enter_135 : decode cX2_enter 135 = .ok (.dup, 1) := by decide +kernel
theorem dX2_enter_136 : decode cX2_enter 136 = .ok (.getfield 37, 3) := by decide +kernel
theorem dX2_enter_139 : decode cX2_enter 139 = .ok (.iconst 1, 1) := by decide +kernel
theorem dX2_enter_140 : decode cX2_enter 140 = .ok (.iadd, 1) := by decide +kernel
theorem dX2_enter_141 : decode cX2_enter 141 = .ok (.putfield 37, 3) := by decide +kernel
theorem dX2_enter_144 : decode cX2_enter 144 = .ok (.return_, 1) := by decide +kernel
noncomputable def f_X2_enter_L12 (M : ZMem) (x1 : Int64) (s : (Int32)) : Option ((Int32) ⊕ (Int32)) := if (M.1 34 6) ≤ s then some (.inr s) else zchk (zin s 120) (if (zI 0) ≤ (lg_cmp (M.2 35 (zix s)) x1) then some (.inr s) else zbnd (s + (zI 1)) (fun x3_31 => some (.inl x3_31)))
set_option maxRecDepth 100000 in
set_option maxHeartbeats 4000000 in
theorem w_X2_enter_L12 {E : ZEv} {G : ZG} {K : ZMem → Prop} (h : zRu lyC E G (zRv K) cX2_enter RX2 4 none 0) (M : ZMem) (x1 : Int64) (s : (Int32)) (hk : zOk (zloop (f_X2_enter_L12 M x1) s) (fun e => G M 37 [(0, zrf E 34), (1, .long x1), (3, .int e)] [])) : G M 12 [(0, zrf E 34), (1, .long x1), (3, .int s)] [] := by
  refine zloop_walk (P := fun s => G M 12 [(0, zrf E 34), (1, .long x1), (3, .int s)] []) hk (fun s hk => ?_)
  unfold f_X2_enter_L12 at hk
  refine zr_iload_n h dX2_enter_12 2 rfl rfl ?_
  refine zr_aload_n h dX2_enter_13 0 rfl rfl ?_
  refine zr_getI h zfo_X2_37 lC_34 rfl dX2_enter_14 ?_
  refine zr_icmp_ge (tgt := 37) h dX2_enter_17 (by decide) (fun c => ?_) (fun c => ?_)
  · have hk := zOk_t c hk
    have hk := zOk_some hk
    exact zr_weak h [0, 1, 2] rfl hk
  · have hk := zOk_f c hk
    refine zr_aload_n h dX2_enter_20 0 rfl rfl ?_
    refine zr_getR h zfo_X2_9 lC_34 rfl dX2_enter_21 ?_
    refine zr_iload_n h dX2_enter_24 2 rfl rfl ?_
    have hb := zOk_chk hk
    have hk := hb.2
    refine zr_lald h lC_35 hb.1 dX2_enter_25 ?_
    refine zr_lload_n h dX2_enter_26 1 rfl rfl ?_
    refine zr_lcmp h dX2_enter_27 ?_
    refine zr_if_ge (tgt := 37) h dX2_enter_28 (by decide) (fun c => ?_) (fun c => ?_)
    · have hk := zOk_t c hk
      have hk := zOk_some hk
      exact zr_weak h [0, 1, 2] rfl hk
    · have hk := zOk_f c hk
      obtain ⟨x3_31, ex⟩ : ∃ y : Int32, y = s + (zI 1) := ⟨_, rfl⟩
      have hk := zOk_bnd ex hk
      refine zr_iinc (v := x3_31) (L' := [(0, zrf E 34), (1, .long x1), (3, .int x3_31)]) h 2 [1, 2, 0] dX2_enter_31 rfl (by rw [ex]; rfl) (by decide) rfl ?_
      refine zr_goto (tgt := 12) h dX2_enter_34 (by decide) ?_
      have hk := zOk_some hk
      exact zr_weak h [0, 1, 2] rfl hk
noncomputable def f_X2_enter_69 (M : ZMem) (x1 : Int64) (x3 : Int32) : Option ZMem := if (zI 120) ≤ (M.1 34 6) then some M else zchk (zcp x3 (x3 + (zI 1)) ((M.1 34 6) - x3) 120 120) (zbnd (zstG M 35 (va_cpy (M.2 35) (M.2 35) (zix x3) (zix (x3 + (zI 1))) (zix ((M.1 34 6) - x3)))) (fun M_96 => zchk (zcp x3 (x3 + (zI 1)) ((M_96.1 34 6) - x3) 120 120) (zbnd (zstF M_96 36 (va_cpy (M_96.1 36) (M_96.1 36) (zix x3) (zix (x3 + (zI 1))) (zix ((M_96.1 34 6) - x3)))) (fun M_117 => zchk (zin x3 120) (zbnd (zstL M_117 35 (zix x3) x1) (fun M_126 => zchk (zin x3 120) (zbnd (zstI M_126 36 (zix x3) (zI 1)) (fun M_133 => zbnd (zstI M_133 34 6 ((M_133.1 34 6) + (zI 1))) (fun M_141 => some M_141)))))))))
set_option maxRecDepth 100000 in
set_option maxHeartbeats 4000000 in
theorem w_X2_enter_69 {E : ZEv} {G : ZG} {K : ZMem → Prop} (h : zRu lyC E G (zRv K) cX2_enter RX2 4 none 0) (M : ZMem) (x1 : Int64) (x3 : Int32) (hk : zOk (f_X2_enter_69 M x1 x3) K) : G M 69 [(0, zrf E 34), (1, .long x1), (3, .int x3)] [] := by
  unfold f_X2_enter_69 at hk
  refine zr_aload_n h dX2_enter_69 0 rfl rfl ?_
  refine zr_getI h zfo_X2_37 lC_34 rfl dX2_enter_70 ?_
  refine zr_bipush (v := (zI 120)) h dX2_enter_73 (by decide) ?_
  refine zr_icmp_ge (tgt := 144) h dX2_enter_75 (by decide) (fun c => ?_) (fun c => ?_)
  · have hk := zOk_t c hk
    have hk := zOk_some hk
    exact zr_vret h dX2_enter_144 ⟨rfl, hk⟩
  · have hk := zOk_f c hk
    refine zr_aload_n h dX2_enter_78 0 rfl rfl ?_
    refine zr_getR h zfo_X2_9 lC_34 rfl dX2_enter_79 ?_
    refine zr_iload_n h dX2_enter_82 2 rfl rfl ?_
    refine zr_aload_n h dX2_enter_83 0 rfl rfl ?_
    refine zr_getR h zfo_X2_9 lC_34 rfl dX2_enter_84 ?_
    refine zr_iload_n h dX2_enter_87 2 rfl rfl ?_
    refine zr_iconst (v := (zI 1)) h dX2_enter_88 rfl ?_
    refine zr_iadd h dX2_enter_89 ?_
    refine zr_aload_n h dX2_enter_90 0 rfl rfl ?_
    refine zr_getI h zfo_X2_37 lC_34 rfl dX2_enter_91 ?_
    refine zr_iload_n h dX2_enter_94 2 rfl rfl ?_
    refine zr_isub h dX2_enter_95 ?_
    have hb := zOk_chk hk
    have hk := hb.2
    refine zr_copyl h zac_X2_81 lC_35 lC_35 hb.1 (Nat.le_of_ble_eq_true rfl) dX2_enter_96 ?_
    refine zr_mem (fun M_96 eM => ?_)
    have hk := zOk_bnd eM hk
    refine zr_aload_n h dX2_enter_99 0 rfl rfl ?_
    refine zr_getR h zfo_X2_15 lC_34 rfl dX2_enter_100 ?_
    refine zr_iload_n h dX2_enter_103 2 rfl rfl ?_
    refine zr_aload_n h dX2_enter_104 0 rfl rfl ?_
    refine zr_getR h zfo_X2_15 lC_34 rfl dX2_enter_105 ?_
    refine zr_iload_n h dX2_enter_108 2 rfl rfl ?_
    refine zr_iconst (v := (zI 1)) h dX2_enter_109 rfl ?_
    refine zr_iadd h dX2_enter_110 ?_
    refine zr_aload_n h dX2_enter_111 0 rfl rfl ?_
    refine zr_getI h zfo_X2_37 lC_34 rfl dX2_enter_112 ?_
    refine zr_iload_n h dX2_enter_115 2 rfl rfl ?_
    refine zr_isub h dX2_enter_116 ?_
    have hb := zOk_chk hk
    have hk := hb.2
    refine zr_copyi h zac_X2_81 lC_36 lC_36 hb.1 (Nat.le_of_ble_eq_true rfl) dX2_enter_117 ?_
    refine zr_mem (fun M_117 eM => ?_)
    have hk := zOk_bnd eM hk
    refine zr_aload_n h dX2_enter_120 0 rfl rfl ?_
    refine zr_getR h zfo_X2_9 lC_34 rfl dX2_enter_121 ?_
    refine zr_iload_n h dX2_enter_124 2 rfl rfl ?_
    refine zr_lload_n h dX2_enter_125 1 rfl rfl ?_
    have hb := zOk_chk hk
    have hk := hb.2
    refine zr_last h lC_35 hb.1 dX2_enter_126 ?_
    refine zr_mem (fun M_126 eM => ?_)
    have hk := zOk_bnd eM hk
    refine zr_aload_n h dX2_enter_127 0 rfl rfl ?_
    refine zr_getR h zfo_X2_15 lC_34 rfl dX2_enter_128 ?_
    refine zr_iload_n h dX2_enter_131 2 rfl rfl ?_
    refine zr_iconst (v := (zI 1)) h dX2_enter_132 rfl ?_
    have hb := zOk_chk hk
    have hk := hb.2
    refine zr_iast h lC_36 hb.1 dX2_enter_133 ?_
    refine zr_mem (fun M_133 eM => ?_)
    have hk := zOk_bnd eM hk
    refine zr_aload_n h dX2_enter_134 0 rfl rfl ?_
    refine zr_dup h dX2_enter_135 rfl ?_
    refine zr_getI h zfo_X2_37 lC_34 rfl dX2_enter_136 ?_
    refine zr_iconst (v := (zI 1)) h dX2_enter_139 rfl ?_
    refine zr_iadd h dX2_enter_140 ?_
    refine zr_putI h zfp_X2_37 lC_34 rfl dX2_enter_141 ?_
    refine zr_mem (fun M_141 eM => ?_)
    have hk := zOk_bnd eM hk
    have hk := zOk_some hk
    exact zr_vret h dX2_enter_144 ⟨rfl, hk⟩
noncomputable def f_X2_enter (M : ZMem) (x1 : Int64) : Option ZMem := zbnd (zstI M 34 7 ((M.1 34 7) + (zI 1))) (fun M_7 => zbind (zloop (f_X2_enter_L12 M_7 x1) (zI 0)) (fun e12 => if (M_7.1 34 6) ≤ e12 then f_X2_enter_69 M_7 x1 e12 else zchk (zin e12 120) (if (lg_cmp (M_7.2 35 (zix e12)) x1) = (zI 0) then zchk (zin e12 120) (zchk (zin e12 120) (zbnd (zstI M_7 36 (zix e12) ((M_7.1 36 (zix e12)) + (zI 1))) (fun M_65 => some M_65))) else f_X2_enter_69 M_7 x1 e12)))
set_option maxRecDepth 100000 in
set_option maxHeartbeats 4000000 in
theorem c_X2_enter (E : ZEv) (M : ZMem) (x1 : Int64) (K : ZMem → Prop) (hk : zOk (f_X2_enter M x1) K) : zCon lyC E yX2_enter cX2_enter 4 none 0 [zrf E 34, .long x1] M (zRv K) := by
  refine zcon_of (L0 := [(0, zrf E 34), (1, .long x1)]) (by decide) rfl (Nat.le_of_ble_eq_true rfl) (fun G h => ?_)
  have h : zRu lyC E G (zRv K) cX2_enter RX2 4 none 0 := h
  unfold f_X2_enter at hk
  refine zr_aload_n h dX2_enter_0 0 rfl rfl ?_
  refine zr_dup h dX2_enter_1 rfl ?_
  refine zr_getI h zfo_X2_41 lC_34 rfl dX2_enter_2 ?_
  refine zr_iconst (v := (zI 1)) h dX2_enter_5 rfl ?_
  refine zr_iadd h dX2_enter_6 ?_
  refine zr_putI h zfp_X2_41 lC_34 rfl dX2_enter_7 ?_
  refine zr_mem (fun M_7 eM => ?_)
  have hk := zOk_bnd eM hk
  refine zr_iconst (v := (zI 0)) h dX2_enter_10 rfl ?_
  refine zr_istore_n (L' := [(0, zrf E 34), (1, .long x1), (3, .int (zI 0))]) h [1, 2, 0] dX2_enter_11 rfl (by decide) rfl ?_
  refine w_X2_enter_L12 h M_7 x1 (zI 0) (zOk_mono (zOk_bind hk) (fun e12 hk => ?_))
  refine zr_iload_n h dX2_enter_37 2 rfl rfl ?_
  refine zr_aload_n h dX2_enter_38 0 rfl rfl ?_
  refine zr_getI h zfo_X2_37 lC_34 rfl dX2_enter_39 ?_
  refine zr_icmp_ge (tgt := 69) h dX2_enter_42 (by decide) (fun c => ?_) (fun c => ?_)
  · have hk := zOk_t c hk
    exact w_X2_enter_69 h M_7 x1 e12 hk
  · have hk := zOk_f c hk
    refine zr_aload_n h dX2_enter_45 0 rfl rfl ?_
    refine zr_getR h zfo_X2_9 lC_34 rfl dX2_enter_46 ?_
    refine zr_iload_n h dX2_enter_49 2 rfl rfl ?_
    have hb := zOk_chk hk
    have hk := hb.2
    refine zr_lald h lC_35 hb.1 dX2_enter_50 ?_
    refine zr_lload_n h dX2_enter_51 1 rfl rfl ?_
    refine zr_lcmp h dX2_enter_52 ?_
    refine zr_if_ne (tgt := 69) h dX2_enter_53 (by decide) (fun c => ?_) (fun c => ?_)
    · have hk := zOk_t c hk
      refine zr_aload_n h dX2_enter_56 0 rfl rfl ?_
      refine zr_getR h zfo_X2_15 lC_34 rfl dX2_enter_57 ?_
      refine zr_iload_n h dX2_enter_60 2 rfl rfl ?_
      refine zr_dup2_11 h dX2_enter_61 rfl rfl ?_
      have hb := zOk_chk hk
      have hk := hb.2
      refine zr_iald h lC_36 hb.1 dX2_enter_62 ?_
      refine zr_iconst (v := (zI 1)) h dX2_enter_63 rfl ?_
      refine zr_iadd h dX2_enter_64 ?_
      have hb := zOk_chk hk
      have hk := hb.2
      refine zr_iast h lC_36 hb.1 dX2_enter_65 ?_
      refine zr_mem (fun M_65 eM => ?_)
      have hk := zOk_bnd eM hk
      refine zr_goto (tgt := 144) h dX2_enter_66 (by decide) ?_
      have hk := zOk_some hk
      exact zr_vret h dX2_enter_144 ⟨rfl, hk⟩
    · have hk := zOk_f c hk
      exact w_X2_enter_69 h M_7 x1 e12 hk
theorem dX2_cutRow_0 : decode cX2_cutRow 0 = .ok (.iconst 0, 1) := by decide +kernel
theorem dX2_cutRow_1 : decode cX2_cutRow 1 = .ok (.istore 4, 2) := by decide +kernel
theorem dX2_cutRow_3 : decode cX2_cutRow 3 = .ok (.iload 4, 2) := by decide +kernel
theorem dX2_cutRow_5 : decode cX2_cutRow 5 = .ok (.aload_n 1, 1) := by decide +kernel
theorem dX2_cutRow_6 : decode cX2_cutRow 6 = .ok (.iload_n 2, 1) := by decide +kernel
theorem dX2_cutRow_7 : decode cX2_cutRow 7 = .ok (.invokevirtual 55, 3) := by decide +kernel
theorem dX2_cutRow_10 : decode cX2_cutRow 10 = .ok (.if_icmp .ge 83, 3) := by decide +kernel
theorem dX2_cutRow_13 : decode cX2_cutRow 13 = .ok (.iconst 1, 1) := by decide +kernel
theorem dX2_cutRow_14 : decode cX2_cutRow 14 = .ok (.aload_n 1, 1) := by decide +kernel
theorem dX2_cutRow_15 : decode cX2_cutRow 15 = .ok (.iload_n 2, 1) := by decide +kernel
theorem dX2_cutRow_16 : decode cX2_cutRow 16 = .ok (.iload 4, 2) := by decide +kernel
theorem dX2_cutRow_18 : decode cX2_cutRow 18 = .ok (.iload_n 3, 1) := by decide +kernel
theorem dX2_cutRow_19 : decode cX2_cutRow 19 = .ok (.invokevirtual 61, 3) := by decide +kernel
theorem dX2_cutRow_22 : decode cX2_cutRow 22 = .ok (.invokestatic 65, 3) := by decide +kernel
theorem dX2_cutRow_25 : decode cX2_cutRow 25 = .ok (.istore 5, 2) := by decide +kernel
theorem dX2_cutRow_27 : decode cX2_cutRow 27 = .ok (.lconst 0, 1) := by decide +kernel
theorem dX2_cutRow_28 : decode cX2_cutRow 28 = .ok (.lstore 6, 2) := by decide +kernel
theorem dX2_cutRow_30 : decode cX2_cutRow 30 = .ok (.iconst 0, 1) := by decide +kernel
theorem dX2_cutRow_31 : decode cX2_cutRow 31 = .ok (.istore 8, 2) := by decide +kernel
theorem dX2_cutRow_33 : decode cX2_cutRow 33 = .ok (.iload 8, 2) := by decide +kernel
theorem dX2_cutRow_35 : decode cX2_cutRow 35 = .ok (.iload 5, 2) := by decide +kernel
theorem dX2_cutRow_37 : decode cX2_cutRow 37 = .ok (.if_icmp .ge 40, 3) := by decide +kernel
theorem dX2_cutRow_40 : decode cX2_cutRow 40 = .ok (.iload 8, 2) := by decide +kernel
theorem dX2_cutRow_42 : decode cX2_cutRow 42 = .ok (.bipush 7, 2) := by decide +kernel
theorem dX2_cutRow_44 : decode cX2_cutRow 44 = .ok (.if_icmp .ge 33, 3) := by decide +kernel
theorem dX2_cutRow_47 : decode cX2_cutRow 47 = .ok (.lload 6, 2) := by decide +kernel
theorem dX2_cutRow_49 : decode cX2_cutRow 49 = .ok (.aload_n 1, 1) := by decide +kernel
theorem dX2_cutRow_50 : decode cX2_cutRow 50 = .ok (.iload_n 2, 1) := by decide +kernel
theorem dX2_cutRow_51 : decode cX2_cutRow 51 = .ok (.iload 4, 2) := by decide +kernel
theorem dX2_cutRow_53 : decode cX2_cutRow 53 = .ok (.iload 8, 2) := by decide +kernel
theorem dX2_cutRow_55 : decode cX2_cutRow 55 = .ok (.iadd, 1) := by decide +kernel
theorem dX2_cutRow_56 : decode cX2_cutRow 56 = .ok (.invokevirtual 71, 3) := by decide +kernel
theorem dX2_cutRow_59 : decode cX2_cutRow 59 = .ok (.i2l, 1) := by decide +kernel
theorem dX2_cutRow_60 : decode cX2_cutRow 60 = .ok (.lconst 1, 1) := by decide +kernel
theorem dX2_cutRow_61 : decode cX2_cutRow 61 = .ok (.ladd, 1) := by decide +kernel
theorem dX2_cutRow_62 : decode cX2_cutRow 62 = .ok (.iload 8, 2) := by decide +kernel
theorem dX2_cutRow_64 : decode cX2_cutRow 64 = .ok (.invokestatic 74, 3) := by decide +kernel
theorem dX2_cutRow_67 : decode cX2_cutRow 67 = .ok (.lshl, 1) := by decide +kernel
theorem dX2_cutRow_68 : decode cX2_cutRow 68 = .ok (.lor, 1) := by decide +kernel
theorem dX2_cutRow_69 : decode cX2_cutRow 69 = .ok (.lstore 6, 2) := by decide +kernel
theorem dX2_cutRow_71 : decode cX2_cutRow 71 = .ok (.iinc 8 1, 3) := by decide +kernel
theorem dX2_cutRow_74 : decode cX2_cutRow 74 = .ok (.goto (-41), 3) := by decide +kernel
theorem dX2_cutRow_77 : decode cX2_cutRow 77 = .ok (.aload_n 0, 1) := by decide +kernel
theorem dX2_cutRow_78 : decode cX2_cutRow 78 = .ok (.lload 6, 2) := by decide +kernel
theorem dX2_cutRow_80 : decode cX2_cutRow 80 = .ok (.invokevirtual 77, 3) := by decide +kernel
theorem dX2_cutRow_83 : decode cX2_cutRow 83 = .ok (.iload 4, 2) := by decide +kernel
theorem dX2_cutRow_85 : decode cX2_cutRow 85 = .ok (.iload 5, 2) := by decide +kernel
theorem dX2_cutRow_87 : decode cX2_cutRow 87 = .ok (.iadd, 1) := by decide +kernel
theorem dX2_cutRow_88 : decode cX2_cutRow 88 = .ok (.istore 4, 2) := by decide +kernel
theorem dX2_cutRow_90 : decode cX2_cutRow 90 = .ok (.goto (-87), 3) := by decide +kernel
theorem dX2_cutRow_93 : decode cX2_cutRow 93 = .ok (.return_, 1) := by decide +kernel
noncomputable def f_X2_cutRow_L33 (M : ZMem) (x2 : Int32) (x3 : Int32) (x4 : Int32) (x5 : Int32) (s : (Int64 × Int32)) : Option ((Int64 × Int32) ⊕ (Int64)) := if x5 ≤ s.2 then some (.inr s.1) else if (zI 7) ≤ s.2 then some (.inr s.1) else zbind (f_X6_signAt M x2 (x4 + s.2)) (fun r_56 => zbind (f_X2_shiftOf M s.2) (fun r_64 => zbnd (s.1 ||| ((((r_56 : Int32).toInt64) + (1 : Int64)) <<< ((r_64 : Int32).toInt64 &&& 63))) (fun x6_69 => zbnd (s.2 + (zI 1)) (fun x8_71 => some (.inl (x6_69, x8_71))))))
set_option maxRecDepth 100000 in
set_option maxHeartbeats 4000000 in
theorem w_X2_cutRow_L33 {E : ZEv} {G : ZG} {K : ZMem → Prop} (h : zRu lyC E G (zRv K) cX2_cutRow RX2 9 none 3) (M : ZMem) (x2 : Int32) (x3 : Int32) (x4 : Int32) (x5 : Int32) (s : (Int64 × Int32)) (hk : zOk (zloop (f_X2_cutRow_L33 M x2 x3 x4 x5) s) (fun e => G M 77 [(0, zrf E 34), (1, zrf E 30), (2, .int x2), (3, .int x3), (4, .int x4), (5, .int x5), (6, .long e)] [])) : G M 33 [(0, zrf E 34), (1, zrf E 30), (2, .int x2), (3, .int x3), (4, .int x4), (5, .int x5), (6, .long s.1), (8, .int s.2)] [] := by
  refine zloop_walk (P := fun s => G M 33 [(0, zrf E 34), (1, zrf E 30), (2, .int x2), (3, .int x3), (4, .int x4), (5, .int x5), (6, .long s.1), (8, .int s.2)] []) hk (fun s hk => ?_)
  unfold f_X2_cutRow_L33 at hk
  refine zr_iload h dX2_cutRow_33 7 rfl ?_
  refine zr_iload h dX2_cutRow_35 5 rfl ?_
  refine zr_icmp_ge (tgt := 77) h dX2_cutRow_37 (by decide) (fun c => ?_) (fun c => ?_)
  · have hk := zOk_t c hk
    have hk := zOk_some hk
    exact zr_weak h [0, 1, 2, 3, 4, 5, 6] rfl hk
  · have hk := zOk_f c hk
    refine zr_iload h dX2_cutRow_40 7 rfl ?_
    refine zr_bipush (v := (zI 7)) h dX2_cutRow_42 (by decide) ?_
    refine zr_icmp_ge (tgt := 77) h dX2_cutRow_44 (by decide) (fun c => ?_) (fun c => ?_)
    · have hk := zOk_t c hk
      have hk := zOk_some hk
      exact zr_weak h [0, 1, 2, 3, 4, 5, 6] rfl hk
    · have hk := zOk_f c hk
      refine zr_lload h dX2_cutRow_47 6 rfl ?_
      refine zr_aload_n h dX2_cutRow_49 1 rfl rfl ?_
      refine zr_iload_n h dX2_cutRow_50 2 rfl rfl ?_
      refine zr_iload h dX2_cutRow_51 4 rfl ?_
      refine zr_iload h dX2_cutRow_53 7 rfl ?_
      refine zr_iadd h dX2_cutRow_55 ?_
      refine zr_callVp h lC_30 zcw_X2_71 (by decide) (c_X6_signAt E M x2 (x4 + s.2) _ (zOk_bind hk)) rfl rfl (Nat.le_of_ble_eq_true rfl) dX2_cutRow_56 (fun r_56 hk => ?_)
      refine zr_i2l h dX2_cutRow_59 ?_
      refine zr_lconst (v := 1) h dX2_cutRow_60 (by decide) ?_
      refine zr_ladd h dX2_cutRow_61 ?_
      refine zr_iload h dX2_cutRow_62 7 rfl ?_
      refine zr_callSp h zcw_X2_74 (by decide) (c_X2_shiftOf E M s.2 _ (zOk_bind hk)) rfl rfl (Nat.le_of_ble_eq_true rfl) dX2_cutRow_64 (fun r_64 hk => ?_)
      refine zr_lshl h dX2_cutRow_67 ?_
      refine zr_lor h dX2_cutRow_68 ?_
      refine zr_topl (fun x6_69 ex => ?_)
      have hk := zOk_bnd ex hk
      refine zr_lstore (L' := [(0, zrf E 34), (1, zrf E 30), (2, .int x2), (3, .int x3), (4, .int x4), (5, .int x5), (6, .long x6_69), (8, .int s.2)]) h [1, 2, 3, 4, 5, 6, 0, 7] dX2_cutRow_69 (by decide) rfl ?_
      obtain ⟨x8_71, ex⟩ : ∃ y : Int32, y = s.2 + (zI 1) := ⟨_, rfl⟩
      have hk := zOk_bnd ex hk
      refine zr_iinc (v := x8_71) (L' := [(0, zrf E 34), (1, zrf E 30), (2, .int x2), (3, .int x3), (4, .int x4), (5, .int x5), (6, .long x6_69), (8, .int x8_71)]) h 7 [1, 2, 3, 4, 5, 6, 7, 0] dX2_cutRow_71 rfl (by rw [ex]; rfl) (by decide) rfl ?_
      refine zr_goto (tgt := 33) h dX2_cutRow_74 (by decide) ?_
      have hk := zOk_some hk
      exact zr_weak h [0, 1, 2, 3, 4, 5, 6, 7] rfl hk
noncomputable def f_X2_cutRow_L3 (x2 : Int32) (x3 : Int32) (s : (ZMem × Int32)) : Option ((ZMem × Int32) ⊕ (ZMem)) := zbind (f_X6_lengthOf s.1 x2) (fun r_7 => if r_7 ≤ s.2 then some (.inr s.1) else zbind (f_X6_wordLength s.1 x2 s.2 x3) (fun r_19 => zbnd (if (zI 1) < r_19.2 then r_19.2 else (zI 1)) (fun x5_25 => zbind (zloop (f_X2_cutRow_L33 r_19.1 x2 x3 s.2 x5_25) ((0 : Int64), (zI 0))) (fun e33 => zbind (f_X2_enter r_19.1 e33) (fun M_80 => zbnd (s.2 + x5_25) (fun x4_88 => some (.inl (M_80, x4_88))))))))
set_option maxRecDepth 100000 in
set_option maxHeartbeats 4000000 in
theorem w_X2_cutRow_L3 {E : ZEv} {G : ZG} {K : ZMem → Prop} (h : zRu lyC E G (zRv K) cX2_cutRow RX2 9 none 3) (x2 : Int32) (x3 : Int32) (s : (ZMem × Int32)) (hk : zOk (zloop (f_X2_cutRow_L3 x2 x3) s) (fun e => G e 93 [] [])) : G s.1 3 [(0, zrf E 34), (1, zrf E 30), (2, .int x2), (3, .int x3), (4, .int s.2)] [] := by
  refine zloop_walk (P := fun s => G s.1 3 [(0, zrf E 34), (1, zrf E 30), (2, .int x2), (3, .int x3), (4, .int s.2)] []) hk (fun s hk => ?_)
  unfold f_X2_cutRow_L3 at hk
  refine zr_iload h dX2_cutRow_3 4 rfl ?_
  refine zr_aload_n h dX2_cutRow_5 1 rfl rfl ?_
  refine zr_iload_n h dX2_cutRow_6 2 rfl rfl ?_
  refine zr_callVp h lC_30 zcw_X2_55 (by decide) (c_X6_lengthOf E s.1 x2 _ (zOk_bind hk)) rfl rfl (Nat.le_of_ble_eq_true rfl) dX2_cutRow_7 (fun r_7 hk => ?_)
  refine zr_icmp_ge (tgt := 93) h dX2_cutRow_10 (by decide) (fun c => ?_) (fun c => ?_)
  · have hk := zOk_t c hk
    have hk := zOk_some hk
    exact zr_weak h [] rfl hk
  · have hk := zOk_f c hk
    refine zr_iconst (v := (zI 1)) h dX2_cutRow_13 rfl ?_
    refine zr_aload_n h dX2_cutRow_14 1 rfl rfl ?_
    refine zr_iload_n h dX2_cutRow_15 2 rfl rfl ?_
    refine zr_iload h dX2_cutRow_16 4 rfl ?_
    refine zr_iload_n h dX2_cutRow_18 3 rfl rfl ?_
    refine zr_callVm h lC_30 zcw_X2_61 (by decide) (c_X6_wordLength E s.1 x2 s.2 x3 _ (zOk_bind hk)) rfl rfl (Nat.le_of_ble_eq_true rfl) dX2_cutRow_19 (fun r_19 hk => ?_)
    refine zr_mmax h (zm_31 _ (List.mem_of_getElem? (i := 5) rfl)) (zm_13 _ (List.mem_of_getElem? (i := 10) rfl)) (zm_12 _ (List.mem_of_getElem? (i := 12) rfl)) (zm_13 _ (List.mem_of_getElem? (i := 11) rfl)) (Nat.le_of_ble_eq_true rfl) dX2_cutRow_22 ?_
    refine zr_topi (fun x5_25 ex => ?_)
    have hk := zOk_bnd ex hk
    refine zr_istore (L' := [(0, zrf E 34), (1, zrf E 30), (2, .int x2), (3, .int x3), (4, .int s.2), (5, .int x5_25)]) h [1, 2, 3, 4, 5, 0] dX2_cutRow_25 (by decide) rfl ?_
    refine zr_lconst (v := 0) h dX2_cutRow_27 (by decide) ?_
    refine zr_lstore (L' := [(0, zrf E 34), (1, zrf E 30), (2, .int x2), (3, .int x3), (4, .int s.2), (5, .int x5_25), (6, .long (0 : Int64))]) h [1, 2, 3, 4, 5, 6, 0] dX2_cutRow_28 (by decide) rfl ?_
    refine zr_iconst (v := (zI 0)) h dX2_cutRow_30 rfl ?_
    refine zr_istore (L' := [(0, zrf E 34), (1, zrf E 30), (2, .int x2), (3, .int x3), (4, .int s.2), (5, .int x5_25), (6, .long (0 : Int64)), (8, .int (zI 0))]) h [1, 2, 3, 4, 5, 6, 7, 0] dX2_cutRow_31 (by decide) rfl ?_
    refine w_X2_cutRow_L33 h r_19.1 x2 x3 s.2 x5_25 ((0 : Int64), (zI 0)) (zOk_mono (zOk_bind hk) (fun e33 hk => ?_))
    refine zr_aload_n h dX2_cutRow_77 0 rfl rfl ?_
    refine zr_lload h dX2_cutRow_78 6 rfl ?_
    refine zr_callVv h lC_34 zcw_X2_77 (by decide) (c_X2_enter E r_19.1 e33 _ (zOk_bind hk)) rfl rfl (Nat.le_of_ble_eq_true rfl) dX2_cutRow_80 (fun M_80 hk => ?_)
    refine zr_iload h dX2_cutRow_83 4 rfl ?_
    refine zr_iload h dX2_cutRow_85 5 rfl ?_
    refine zr_iadd h dX2_cutRow_87 ?_
    refine zr_topi (fun x4_88 ex => ?_)
    have hk := zOk_bnd ex hk
    refine zr_istore (L' := [(0, zrf E 34), (1, zrf E 30), (2, .int x2), (3, .int x3), (4, .int x4_88)]) h [1, 2, 3, 4, 0] dX2_cutRow_88 (by decide) rfl ?_
    refine zr_goto (tgt := 3) h dX2_cutRow_90 (by decide) ?_
    have hk := zOk_some hk
    exact zr_weak h [0, 1, 2, 3, 4] rfl hk
noncomputable def f_X2_cutRow (M : ZMem) (x2 : Int32) (x3 : Int32) : Option ZMem := zbind (zloop (f_X2_cutRow_L3 x2 x3) (M, (zI 0))) (fun e3 => some e3)
set_option maxRecDepth 100000 in
set_option maxHeartbeats 4000000 in
theorem c_X2_cutRow (E : ZEv) (M : ZMem) (x2 : Int32) (x3 : Int32) (K : ZMem → Prop) (hk : zOk (f_X2_cutRow M x2 x3) K) : zCon lyC E yX2_cutRow cX2_cutRow 9 none 3 [zrf E 34, zrf E 30, .int x2, .int x3] M (zRv K) := by
  refine zcon_of (L0 := [(0, zrf E 34), (1, zrf E 30), (2, .int x2), (3, .int x3)]) (by decide) rfl (Nat.le_of_ble_eq_true rfl) (fun G h => ?_)
  have h : zRu lyC E G (zRv K) cX2_cutRow RX2 9 none 3 := h
  unfold f_X2_cutRow at hk
  refine zr_iconst (v := (zI 0)) h dX2_cutRow_0 rfl ?_
  refine zr_istore (L' := [(0, zrf E 34), (1, zrf E 30), (2, .int x2), (3, .int x3), (4, .int (zI 0))]) h [1, 2, 3, 4, 0] dX2_cutRow_1 (by decide) rfl ?_
  refine w_X2_cutRow_L3 h x2 x3 (M, (zI 0)) (zOk_mono (zOk_bind hk) (fun e3 hk => ?_))
  have hk := zOk_some hk
  exact zr_vret h dX2_cutRow_93 ⟨rfl, hk⟩
theorem dX2_has_0 : decode cX2_has 0 = .ok (.iload_n 1, 1) := by decide +kernel
theorem dX2_has_1 : decode cX2_has 1 = .ok (.ifCond .lt 15, 3) := by decide +kernel
theorem dX2_has_4 : decode cX2_has 4 = .ok (.iload_n 1, 1) := by decide +kernel
theorem dX2_has_5 : decode cX2_has 5 = .ok (.aload_n 0, 1) := by decide +kernel
theorem dX2_has_6 : decode cX2_has 6 = .ok (.getfield 37, 3) := by decide +kernel
theorem dX2_has_9 : decode cX2_has 9 = .ok (.if_icmp .ge 7, 3) := by decide +kernel
theorem dX2_has_12 : decode cX2_has 12 = .ok (.iconst 1, 1) := by decide +kernel
theorem dX2_has_13 : decode cX2_has 13 = .ok (.goto 4, 3) := by decide +kernel
theorem dX2_has_16 : decode cX2_has 16 = .ok (.iconst 0, 1) := by decide +kernel
theorem dX2_has_17 : decode cX2_has 17 = .ok (.ireturn, 1) := by decide +kernel
noncomputable def f_X2_has (M : ZMem) (x1 : Int32) : Option Int32 := if x1 < (zI 0) then some (zI 0) else if (M.1 34 6) ≤ x1 then some (zI 0) else some (zI 1)
set_option maxRecDepth 100000 in
set_option maxHeartbeats 4000000 in
theorem c_X2_has (E : ZEv) (M : ZMem) (x1 : Int32) (K : Int32 → Prop) (hk : zOk (f_X2_has M x1) K) : zCon lyC E yX2_has cX2_has 2 (some .boolean) 0 [zrf E 34, .int x1] M (zRp M K) := by
  refine zcon_of (L0 := [(0, zrf E 34), (1, .int x1)]) (by decide) rfl (Nat.le_of_ble_eq_true rfl) (fun G h => ?_)
  have h : zRu lyC E G (zRp M K) cX2_has RX2 2 (some .boolean) 0 := h
  unfold f_X2_has at hk
  refine zr_iload_n h dX2_has_0 1 rfl rfl ?_
  refine zr_if_lt (tgt := 16) h dX2_has_1 (by decide) (fun c => ?_) (fun c => ?_)
  · have hk := zOk_t c hk
    refine zr_iconst (v := (zI 0)) h dX2_has_16 rfl ?_
    have hk := zOk_some hk
    exact zr_zret h dX2_has_17 (by decide) ⟨rfl, _, rfl, hk⟩
  · have hk := zOk_f c hk
    refine zr_iload_n h dX2_has_4 1 rfl rfl ?_
    refine zr_aload_n h dX2_has_5 0 rfl rfl ?_
    refine zr_getI h zfo_X2_37 lC_34 rfl dX2_has_6 ?_
    refine zr_icmp_ge (tgt := 16) h dX2_has_9 (by decide) (fun c => ?_) (fun c => ?_)
    · have hk := zOk_t c hk
      refine zr_iconst (v := (zI 0)) h dX2_has_16 rfl ?_
      have hk := zOk_some hk
      exact zr_zret h dX2_has_17 (by decide) ⟨rfl, _, rfl, hk⟩
    · have hk := zOk_f c hk
      refine zr_iconst (v := (zI 1)) h dX2_has_12 rfl ?_
      refine zr_goto (tgt := 17) h dX2_has_13 (by decide) ?_
      have hk := zOk_some hk
      exact zr_zret h dX2_has_17 (by decide) ⟨rfl, _, rfl, hk⟩
theorem dX2_timesAt_0 : decode cX2_timesAt 0 = .ok (.aload_n 0, 1) := by decide +kernel
theorem dX2_timesAt_1 : decode cX2_timesAt 1 = .ok (.iload_n 1, 1) := by decide +kernel
theorem dX2_timesAt_2 : decode cX2_timesAt 2 = .ok (.invokevirtual 110, 3) := by decide +kernel
theorem dX2_timesAt_5 : decode cX2_timesAt 5 = .ok (.ifCond .eq 12, 3) := by decide +kernel
theorem dX2_timesAt_8 : decode cX2_timesAt 8 = .ok (.aload_n 0, 1) := by decide +kernel
theorem dX2_timesAt_9 : decode cX2_timesAt 9 = .ok (.getfield 15, 3) := by decide +kernel
theorem dX2_timesAt_12 : decode cX2_timesAt 12 = .ok (.iload_n 1, 1) := by decide +kernel
theorem dX2_timesAt_13 : decode cX2_timesAt 13 = .ok (.iaload, 1) := by decide +kernel
theorem dX2_timesAt_14 : decode cX2_timesAt 14 = .ok (.goto 4, 3) := by decide +kernel
theorem dX2_timesAt_17 : decode cX2_timesAt 17 = .ok (.iconst 0, 1) := by decide +kernel
theorem dX2_timesAt_18 : decode cX2_timesAt 18 = .ok (.ireturn, 1) := by decide +kernel
noncomputable def f_X2_timesAt (M : ZMem) (x1 : Int32) : Option Int32 := zbind (f_X2_has M x1) (fun r_2 => if r_2 = (zI 0) then some (zI 0) else zchk (zin x1 120) (some (M.1 36 (zix x1))))
set_option maxRecDepth 100000 in
set_option maxHeartbeats 4000000 in
theorem c_X2_timesAt (E : ZEv) (M : ZMem) (x1 : Int32) (K : Int32 → Prop) (hk : zOk (f_X2_timesAt M x1) K) : zCon lyC E yX2_timesAt cX2_timesAt 2 (some .int) 1 [zrf E 34, .int x1] M (zRp M K) := by
  refine zcon_of (L0 := [(0, zrf E 34), (1, .int x1)]) (by decide) rfl (Nat.le_of_ble_eq_true rfl) (fun G h => ?_)
  have h : zRu lyC E G (zRp M K) cX2_timesAt RX2 2 (some .int) 1 := h
  unfold f_X2_timesAt at hk
  refine zr_aload_n h dX2_timesAt_0 0 rfl rfl ?_
  refine zr_iload_n h dX2_timesAt_1 1 rfl rfl ?_
  refine zr_callVp h lC_34 zcw_X2_110 (by decide) (c_X2_has E M x1 _ (zOk_bind hk)) rfl rfl (Nat.le_of_ble_eq_true rfl) dX2_timesAt_2 (fun r_2 hk => ?_)
  refine zr_if_eq (tgt := 17) h dX2_timesAt_5 (by decide) (fun c => ?_) (fun c => ?_)
  · have hk := zOk_t c hk
    refine zr_iconst (v := (zI 0)) h dX2_timesAt_17 rfl ?_
    have hk := zOk_some hk
    exact zr_iret h dX2_timesAt_18 ⟨rfl, _, rfl, hk⟩
  · have hk := zOk_f c hk
    refine zr_aload_n h dX2_timesAt_8 0 rfl rfl ?_
    refine zr_getR h zfo_X2_15 lC_34 rfl dX2_timesAt_9 ?_
    refine zr_iload_n h dX2_timesAt_12 1 rfl rfl ?_
    have hb := zOk_chk hk
    have hk := hb.2
    refine zr_iald h lC_36 hb.1 dX2_timesAt_13 ?_
    refine zr_goto (tgt := 18) h dX2_timesAt_14 (by decide) ?_
    have hk := zOk_some hk
    exact zr_iret h dX2_timesAt_18 ⟨rfl, _, rfl, hk⟩
theorem dX2_rankWords_0 : decode cX2_rankWords 0 = .ok (.iconst 0, 1) := by decide +kernel
theorem dX2_rankWords_1 : decode cX2_rankWords 1 = .ok (.istore_n 1, 1) := by decide +kernel
theorem dX2_rankWords_2 : decode cX2_rankWords 2 = .ok (.iload_n 1, 1) := by decide +kernel
theorem dX2_rankWords_3 : decode cX2_rankWords 3 = .ok (.aload_n 0, 1) := by decide +kernel
theorem dX2_rankWords_4 : decode cX2_rankWords 4 = .ok (.getfield 37, 3) := by decide +kernel
theorem dX2_rankWords_7 : decode cX2_rankWords 7 = .ok (.if_icmp .ge 63, 3) := by decide +kernel
theorem dX2_rankWords_10 : decode cX2_rankWords 10 = .ok (.iload_n 1, 1) := by decide +kernel
theorem dX2_rankWords_11 : decode cX2_rankWords 11 = .ok (.istore_n 2, 1) := by decide +kernel
theorem dX2_rankWords_12 : decode cX2_rankWords 12 = .ok (.iload_n 2, 1) := by decide +kernel
theorem dX2_rankWords_13 : decode cX2_rankWords 13 = .ok (.ifCond .le 44, 3) := by decide +kernel
theorem dX2_rankWords_16 : decode cX2_rankWords 16 = .ok (.aload_n 0, 1) := by decide +kernel
theorem dX2_rankWords_17 : decode cX2_rankWords 17 = .ok (.aload_n 0, 1) := by decide +kernel
theorem dX2_rankWords_18 : decode cX2_rankWords 18 = .ok (.getfield 22, 3) := by decide +kernel
theorem dX2_rankWords_21 : decode cX2_rankWords 21 = .ok (.iload_n 2, 1) := by decide +kernel
theorem dX2_rankWords_22 : decode cX2_rankWords 22 = .ok (.iconst 1, 1) := by decide +kernel
theorem dX2_rankWords_23 : decode cX2_rankWords 23 = .ok (.isub, 1) := by decide +kernel
theorem dX2_rankWords_24 : decode cX2_rankWords 24 = .ok (.iaload, 1) := by decide +kernel
theorem dX2_rankWords_25 : decode cX2_rankWords 25 = .ok (.invokevirtual 87, 3) := by decide +kernel
theorem dX2_rankWords_28 : decode cX2_rankWords 28 = .ok (.aload_n 0, 1) := by decide +kernel
theorem dX2_rankWords_29 : decode cX2_rankWords 29 = .ok (.getfield 15, 3) := by decide +kernel
theorem dX2_rankWords_32 : decode cX2_rankWords 32 = .ok (.iload_n 1, 1) := by decide +kernel
theorem dX2_rankWords_33 : decode cX2_rankWords 33 = .ok (.iaload, 1) := by decide +kernel
theorem dX2_rankWords_34 : decode cX2_rankWords 34 = .ok (.if_icmp .ge 23, 3) := by decide +kernel
theorem dX2_rankWords_37 : decode cX2_rankWords 37 = .ok (.aload_n 0, 1) := by decide +kernel
theorem dX2_rankWords_38 : decode cX2_rankWords 38 = .ok (.getfield 22, 3) := by decide +kernel
theorem dX2_rankWords_41 : decode cX2_rankWords 41 = .ok (.iload_n 2, 1) := by decide +kernel
theorem dX2_rankWords_42 : decode cX2_rankWords 42 = .ok (.aload_n 0, 1) := by decide +kernel
theorem dX2_rankWords_43 : decode cX2_rankWords 43 = .ok (.getfield 22, 3) := by decide +kernel
theorem dX2_rankWords_46 : decode cX2_rankWords 46 = .ok (.iload_n 2, 1) := by decide +kernel
theorem dX2_rankWords_47 : decode cX2_rankWords 47 = .ok (.iconst 1, 1) := by decide +kernel
theorem dX2_rankWords_48 : decode cX2_rankWords 48 = .ok (.isub, 1) := by decide +kernel
theorem dX2_rankWords_49 : decode cX2_rankWords 49 = .ok (.iaload, 1) := by decide +kernel
theorem dX2_rankWords_50 : decode cX2_rankWords 50 = .ok (.iastore, 1) := by decide +kernel
theorem dX2_rankWords_51 : decode cX2_rankWords 51 = .ok (.iinc 2 (-1), 3) := by decide +kernel
theorem dX2_rankWords_54 : decode cX2_rankWords 54 = .ok (.goto (-42), 3) := by decide +kernel
theorem dX2_rankWords_57 : decode cX2_rankWords 57 = .ok (.aload_n 0, 1) := by decide +kernel
theorem dX2_rankWords_58 : decode cX2_rankWords 58 = .ok (.getfield 22, 3) := by decide +kernel
theorem dX2_rankWords_61 : decode cX2_rankWords 61 = .ok (.iload_n 2, 1) := by decide +kernel
theorem dX2_rankWords_62 : decode cX2_rankWords 62 = .ok (.iload_n 1, 1) := by decide +kernel
theorem dX2_rankWords_63 : decode cX2_rankWords 63 = .ok (.iastore, 1) := by decide +kernel
theorem dX2_rankWords_64 : decode cX2_rankWords 64 = .ok (.iinc 1 1, 3) := by decide +kernel
theorem dX2_rankWords_67 : decode cX2_rankWords 67 = .ok (.goto (-65), 3) := by decide +kernel
theorem dX2_rankWords_70 : decode cX2_rankWords 70 = .ok (.return_, 1) := by decide +kernel
noncomputable def f_X2_rankWords_L12 (x1 : Int32) (s : (ZMem × Int32)) : Option ((ZMem × Int32) ⊕ (ZMem × Int32)) := if s.2 ≤ (zI 0) then some (.inr (s.1, s.2)) else zchk (zin (s.2 - (zI 1)) 120) (zbind (f_X2_timesAt s.1 (s.1.1 38 (zix (s.2 - (zI 1))))) (fun r_25 => zchk (zin x1 120) (if (s.1.1 36 (zix x1)) ≤ r_25 then some (.inr (s.1, s.2)) else zchk (zin (s.2 - (zI 1)) 120) (zchk (zin s.2 120) (zbnd (zstI s.1 38 (zix s.2) (s.1.1 38 (zix (s.2 - (zI 1))))) (fun M_50 => zbnd (s.2 + (zI (-1))) (fun x2_51 => some (.inl (M_50, x2_51)))))))))
set_option maxRecDepth 100000 in
set_option maxHeartbeats 4000000 in
theorem w_X2_rankWords_L12 {E : ZEv} {G : ZG} {K : ZMem → Prop} (h : zRu lyC E G (zRv K) cX2_rankWords RX2 3 none 2) (x1 : Int32) (s : (ZMem × Int32)) (hk : zOk (zloop (f_X2_rankWords_L12 x1) s) (fun e => G e.1 57 [(0, zrf E 34), (1, .int x1), (2, .int e.2)] [])) : G s.1 12 [(0, zrf E 34), (1, .int x1), (2, .int s.2)] [] := by
  refine zloop_walk (P := fun s => G s.1 12 [(0, zrf E 34), (1, .int x1), (2, .int s.2)] []) hk (fun s hk => ?_)
  unfold f_X2_rankWords_L12 at hk
  refine zr_iload_n h dX2_rankWords_12 2 rfl rfl ?_
  refine zr_if_le (tgt := 57) h dX2_rankWords_13 (by decide) (fun c => ?_) (fun c => ?_)
  · have hk := zOk_t c hk
    have hk := zOk_some hk
    exact zr_weak h [0, 1, 2] rfl hk
  · have hk := zOk_f c hk
    refine zr_aload_n h dX2_rankWords_16 0 rfl rfl ?_
    refine zr_aload_n h dX2_rankWords_17 0 rfl rfl ?_
    refine zr_getR h zfo_X2_22 lC_34 rfl dX2_rankWords_18 ?_
    refine zr_iload_n h dX2_rankWords_21 2 rfl rfl ?_
    refine zr_iconst (v := (zI 1)) h dX2_rankWords_22 rfl ?_
    refine zr_isub h dX2_rankWords_23 ?_
    have hb := zOk_chk hk
    have hk := hb.2
    refine zr_iald h lC_38 hb.1 dX2_rankWords_24 ?_
    refine zr_callVp h lC_34 zcw_X2_87 (by decide) (c_X2_timesAt E s.1 (s.1.1 38 (zix (s.2 - (zI 1)))) _ (zOk_bind hk)) rfl rfl (Nat.le_of_ble_eq_true rfl) dX2_rankWords_25 (fun r_25 hk => ?_)
    refine zr_aload_n h dX2_rankWords_28 0 rfl rfl ?_
    refine zr_getR h zfo_X2_15 lC_34 rfl dX2_rankWords_29 ?_
    refine zr_iload_n h dX2_rankWords_32 1 rfl rfl ?_
    have hb := zOk_chk hk
    have hk := hb.2
    refine zr_iald h lC_36 hb.1 dX2_rankWords_33 ?_
    refine zr_icmp_ge (tgt := 57) h dX2_rankWords_34 (by decide) (fun c => ?_) (fun c => ?_)
    · have hk := zOk_t c hk
      have hk := zOk_some hk
      exact zr_weak h [0, 1, 2] rfl hk
    · have hk := zOk_f c hk
      refine zr_aload_n h dX2_rankWords_37 0 rfl rfl ?_
      refine zr_getR h zfo_X2_22 lC_34 rfl dX2_rankWords_38 ?_
      refine zr_iload_n h dX2_rankWords_41 2 rfl rfl ?_
      refine zr_aload_n h dX2_rankWords_42 0 rfl rfl ?_
      refine zr_getR h zfo_X2_22 lC_34 rfl dX2_rankWords_43 ?_
      refine zr_iload_n h dX2_rankWords_46 2 rfl rfl ?_
      refine zr_iconst (v := (zI 1)) h dX2_rankWords_47 rfl ?_
      refine zr_isub h dX2_rankWords_48 ?_
      have hb := zOk_chk hk
      have hk := hb.2
      refine zr_iald h lC_38 hb.1 dX2_rankWords_49 ?_
      have hb := zOk_chk hk
      have hk := hb.2
      refine zr_iast h lC_38 hb.1 dX2_rankWords_50 ?_
      refine zr_mem (fun M_50 eM => ?_)
      have hk := zOk_bnd eM hk
      obtain ⟨x2_51, ex⟩ : ∃ y : Int32, y = s.2 + (zI (-1)) := ⟨_, rfl⟩
      have hk := zOk_bnd ex hk
      refine zr_iinc (v := x2_51) (L' := [(0, zrf E 34), (1, .int x1), (2, .int x2_51)]) h 2 [1, 2, 0] dX2_rankWords_51 rfl (by rw [ex]; rfl) (by decide) rfl ?_
      refine zr_goto (tgt := 12) h dX2_rankWords_54 (by decide) ?_
      have hk := zOk_some hk
      exact zr_weak h [0, 1, 2] rfl hk
noncomputable def f_X2_rankWords_L2 (s : (ZMem × Int32)) : Option ((ZMem × Int32) ⊕ (ZMem)) := if (s.1.1 34 6) ≤ s.2 then some (.inr s.1) else zbind (zloop (f_X2_rankWords_L12 s.2) (s.1, s.2)) (fun e12 => zchk (zin e12.2 120) (zbnd (zstI e12.1 38 (zix e12.2) s.2) (fun M_63 => zbnd (s.2 + (zI 1)) (fun x1_64 => some (.inl (M_63, x1_64))))))
set_option maxRecDepth 100000 in
set_option maxHeartbeats 4000000 in
theorem w_X2_rankWords_L2 {E : ZEv} {G : ZG} {K : ZMem → Prop} (h : zRu lyC E G (zRv K) cX2_rankWords RX2 3 none 2) (s : (ZMem × Int32)) (hk : zOk (zloop (f_X2_rankWords_L2) s) (fun e => G e 70 [] [])) : G s.1 2 [(0, zrf E 34), (1, .int s.2)] [] := by
  refine zloop_walk (P := fun s => G s.1 2 [(0, zrf E 34), (1, .int s.2)] []) hk (fun s hk => ?_)
  unfold f_X2_rankWords_L2 at hk
  refine zr_iload_n h dX2_rankWords_2 1 rfl rfl ?_
  refine zr_aload_n h dX2_rankWords_3 0 rfl rfl ?_
  refine zr_getI h zfo_X2_37 lC_34 rfl dX2_rankWords_4 ?_
  refine zr_icmp_ge (tgt := 70) h dX2_rankWords_7 (by decide) (fun c => ?_) (fun c => ?_)
  · have hk := zOk_t c hk
    have hk := zOk_some hk
    exact zr_weak h [] rfl hk
  · have hk := zOk_f c hk
    refine zr_iload_n h dX2_rankWords_10 1 rfl rfl ?_
    refine zr_istore_n (L' := [(0, zrf E 34), (1, .int s.2), (2, .int s.2)]) h [1, 2, 0] dX2_rankWords_11 rfl (by decide) rfl ?_
    refine w_X2_rankWords_L12 h s.2 (s.1, s.2) (zOk_mono (zOk_bind hk) (fun e12 hk => ?_))
    refine zr_aload_n h dX2_rankWords_57 0 rfl rfl ?_
    refine zr_getR h zfo_X2_22 lC_34 rfl dX2_rankWords_58 ?_
    refine zr_iload_n h dX2_rankWords_61 2 rfl rfl ?_
    refine zr_iload_n h dX2_rankWords_62 1 rfl rfl ?_
    have hb := zOk_chk hk
    have hk := hb.2
    refine zr_iast h lC_38 hb.1 dX2_rankWords_63 ?_
    refine zr_mem (fun M_63 eM => ?_)
    have hk := zOk_bnd eM hk
    obtain ⟨x1_64, ex⟩ : ∃ y : Int32, y = s.2 + (zI 1) := ⟨_, rfl⟩
    have hk := zOk_bnd ex hk
    refine zr_iinc (v := x1_64) (L' := [(0, zrf E 34), (1, .int x1_64)]) h 1 [1, 0] dX2_rankWords_64 rfl (by rw [ex]; rfl) (by decide) rfl ?_
    refine zr_goto (tgt := 2) h dX2_rankWords_67 (by decide) ?_
    have hk := zOk_some hk
    exact zr_weak h [0, 1] rfl hk
noncomputable def f_X2_rankWords (M : ZMem) : Option ZMem := zbind (zloop (f_X2_rankWords_L2) (M, (zI 0))) (fun e2 => some e2)
set_option maxRecDepth 100000 in
set_option maxHeartbeats 4000000 in
theorem c_X2_rankWords (E : ZEv) (M : ZMem) (K : ZMem → Prop) (hk : zOk (f_X2_rankWords M) K) : zCon lyC E yX2_rankWords cX2_rankWords 3 none 2 [zrf E 34] M (zRv K) := by
  refine zcon_of (L0 := [(0, zrf E 34)]) (by decide) rfl (Nat.le_of_ble_eq_true rfl) (fun G h => ?_)
  have h : zRu lyC E G (zRv K) cX2_rankWords RX2 3 none 2 := h
  unfold f_X2_rankWords at hk
  refine zr_iconst (v := (zI 0)) h dX2_rankWords_0 rfl ?_
  refine zr_istore_n (L' := [(0, zrf E 34), (1, .int (zI 0))]) h [1, 0] dX2_rankWords_1 rfl (by decide) rfl ?_
  refine w_X2_rankWords_L2 h (M, (zI 0)) (zOk_mono (zOk_bind hk) (fun e2 hk => ?_))
  have hk := zOk_some hk
  exact zr_vret h dX2_rankWords_70 ⟨rfl, hk⟩
theorem dX2_settle_0 : decode cX2_settle 0 = .ok (.aload_n 0, 1) := by decide +kernel
theorem dX2_settle_1 : decode cX2_settle 1 = .ok (.iconst 0, 1) := by decide +kernel
theorem dX2_settle_2 : decode cX2_settle 2 = .ok (.putfield 37, 3) := by decide +kernel
theorem dX2_settle_5 : decode cX2_settle 5 = .ok (.aload_n 0, 1) := by decide +kernel
theorem dX2_settle_6 : decode cX2_settle 6 = .ok (.iconst 0, 1) := by decide +kernel
theorem dX2_settle_7 : decode cX2_settle 7 = .ok (.putfield 41, 3) := by decide +kernel
theorem dX2_settle_10 : decode cX2_settle 10 = .ok (.iconst 0, 1) := by decide +kernel
theorem dX2_settle_11 : decode cX2_settle 11 = .ok (.istore_n 3, 1) := by decide +kernel
theorem dX2_settle_12 : decode cX2_settle 12 = .ok (.iload_n 3, 1) := by decide +kernel
theorem dX2_settle_13 : decode cX2_settle 13 = .ok (.bipush 24, 2) := by decide +kernel
theorem dX2_settle_15 : decode cX2_settle 15 = .ok (.if_icmp .ge 16, 3) := by decide +kernel
theorem dX2_settle_18 : decode cX2_settle 18 = .ok (.aload_n 0, 1) := by decide +kernel
theorem dX2_settle_19 : decode cX2_settle 19 = .ok (.aload_n 1, 1) := by decide +kernel
theorem dX2_settle_20 : decode cX2_settle 20 = .ok (.iload_n 3, 1) := by decide +kernel
theorem dX2_settle_21 : decode cX2_settle 21 = .ok (.iload_n 2, 1) := by decide +kernel
theorem dX2_settle_22 : decode cX2_settle 22 = .ok (.invokevirtual 44, 3) := by decide +kernel
theorem dX2_settle_25 : decode cX2_settle 25 = .ok (.iinc 3 1, 3) := by decide +kernel
theorem dX2_settle_28 : decode cX2_settle 28 = .ok (.goto (-16), 3) := by decide +kernel
theorem dX2_settle_31 : decode cX2_settle 31 = .ok (.iconst 0, 1) := by decide +kernel
theorem dX2_settle_32 : decode cX2_settle 32 = .ok (.istore_n 3, 1) := by decide +kernel
theorem dX2_settle_33 : decode cX2_settle 33 = .ok (.iload_n 3, 1) := by decide +kernel
theorem dX2_settle_34 : decode cX2_settle 34 = .ok (.aload_n 0, 1) := by decide +kernel
theorem dX2_settle_35 : decode cX2_settle 35 = .ok (.getfield 37, 3) := by decide +kernel
theorem dX2_settle_38 : decode cX2_settle 38 = .ok (.if_icmp .ge 24, 3) := by decide +kernel
theorem dX2_settle_41 : decode cX2_settle 41 = .ok (.aload_n 0, 1) := by decide +kernel
theorem dX2_settle_42 : decode cX2_settle 42 = .ok (.getfield 19, 3) := by decide +kernel
theorem dX2_settle_45 : decode cX2_settle 45 = .ok (.iload_n 3, 1) := by decide +kernel
theorem dX2_settle_46 : decode cX2_settle 46 = .ok (.aload_n 0, 1) := by decide +kernel
theorem dX2_settle_47 : decode cX2_settle 47 = .ok (.getfield 9, 3) := by decide +kernel
theorem dX2_settle_50 : decode cX2_settle 50 = .ok (.iload_n 3, 1) := by decide +kernel
theorem dX2_settle_51 : decode cX2_settle 51 = .ok (.laload, 1) := by decide +kernel
theorem dX2_settle_52 : decode cX2_settle 52 = .ok (.invokestatic 48, 3) := by decide +kernel
theorem dX2_settle_55 : decode cX2_settle 55 = .ok (.iastore, 1) := by decide +kernel
theorem dX2_settle_56 : decode cX2_settle 56 = .ok (.iinc 3 1, 3) := by decide +kernel
theorem dX2_settle_59 : decode cX2_settle 59 = .ok (.goto (-26), 3) := by decide +kernel
theorem dX2_settle_62 : decode cX2_settle 62 = .ok (.aload_n 0, 1) := by decide +kernel
theorem dX2_settle_63 : decode cX2_settle 63 = .ok (.invokevirtual 52, 3) := by decide +kernel
theorem dX2_settle_66 : decode cX2_settle 66 = .ok (.return_, 1) := by decide +kernel
noncomputable def f_X2_settle_L12 (x2 : Int32) (s : (ZMem × Int32)) : Option ((ZMem × Int32) ⊕ (ZMem)) := if (zI 24) ≤ s.2 then some (.inr s.1) else zbind (f_X2_cutRow s.1 s.2 x2) (fun M_22 => zbnd (s.2 + (zI 1)) (fun x3_25 => some (.inl (M_22, x3_25))))
set_option maxRecDepth 100000 in
set_option maxHeartbeats 4000000 in
theorem w_X2_settle_L12 {E : ZEv} {G : ZG} {K : ZMem → Prop} (h : zRu lyC E G (zRv K) cX2_settle RX2 4 none 4) (x2 : Int32) (s : (ZMem × Int32)) (hk : zOk (zloop (f_X2_settle_L12 x2) s) (fun e => G e 31 [(0, zrf E 34)] [])) : G s.1 12 [(0, zrf E 34), (1, zrf E 30), (2, .int x2), (3, .int s.2)] [] := by
  refine zloop_walk (P := fun s => G s.1 12 [(0, zrf E 34), (1, zrf E 30), (2, .int x2), (3, .int s.2)] []) hk (fun s hk => ?_)
  unfold f_X2_settle_L12 at hk
  refine zr_iload_n h dX2_settle_12 3 rfl rfl ?_
  refine zr_bipush (v := (zI 24)) h dX2_settle_13 (by decide) ?_
  refine zr_icmp_ge (tgt := 31) h dX2_settle_15 (by decide) (fun c => ?_) (fun c => ?_)
  · have hk := zOk_t c hk
    have hk := zOk_some hk
    exact zr_weak h [0] rfl hk
  · have hk := zOk_f c hk
    refine zr_aload_n h dX2_settle_18 0 rfl rfl ?_
    refine zr_aload_n h dX2_settle_19 1 rfl rfl ?_
    refine zr_iload_n h dX2_settle_20 3 rfl rfl ?_
    refine zr_iload_n h dX2_settle_21 2 rfl rfl ?_
    refine zr_callVv h lC_34 zcw_X2_44 (by decide) (c_X2_cutRow E s.1 s.2 x2 _ (zOk_bind hk)) rfl rfl (Nat.le_of_ble_eq_true rfl) dX2_settle_22 (fun M_22 hk => ?_)
    obtain ⟨x3_25, ex⟩ : ∃ y : Int32, y = s.2 + (zI 1) := ⟨_, rfl⟩
    have hk := zOk_bnd ex hk
    refine zr_iinc (v := x3_25) (L' := [(0, zrf E 34), (1, zrf E 30), (2, .int x2), (3, .int x3_25)]) h 3 [1, 2, 3, 0] dX2_settle_25 rfl (by rw [ex]; rfl) (by decide) rfl ?_
    refine zr_goto (tgt := 12) h dX2_settle_28 (by decide) ?_
    have hk := zOk_some hk
    exact zr_weak h [0, 1, 2, 3] rfl hk
noncomputable def f_X2_settle_L33 (s : (ZMem × Int32)) : Option ((ZMem × Int32) ⊕ (ZMem)) := if (s.1.1 34 6) ≤ s.2 then some (.inr s.1) else zchk (zin s.2 120) (zbind (f_X2_lengthOfKey s.1 (s.1.2 35 (zix s.2))) (fun r_52 => zchk (zin s.2 120) (zbnd (zstI s.1 37 (zix s.2) r_52) (fun M_55 => zbnd (s.2 + (zI 1)) (fun x3_56 => some (.inl (M_55, x3_56)))))))
set_option maxRecDepth 100000 in
set_option maxHeartbeats 4000000 in
theorem w_X2_settle_L33 {E : ZEv} {G : ZG} {K : ZMem → Prop} (h : zRu lyC E G (zRv K) cX2_settle RX2 4 none 4) (s : (ZMem × Int32)) (hk : zOk (zloop (f_X2_settle_L33) s) (fun e => G e 62 [(0, zrf E 34)] [])) : G s.1 33 [(0, zrf E 34), (3, .int s.2)] [] := by
  refine zloop_walk (P := fun s => G s.1 33 [(0, zrf E 34), (3, .int s.2)] []) hk (fun s hk => ?_)
  unfold f_X2_settle_L33 at hk
  refine zr_iload_n h dX2_settle_33 1 rfl rfl ?_
  refine zr_aload_n h dX2_settle_34 0 rfl rfl ?_
  refine zr_getI h zfo_X2_37 lC_34 rfl dX2_settle_35 ?_
  refine zr_icmp_ge (tgt := 62) h dX2_settle_38 (by decide) (fun c => ?_) (fun c => ?_)
  · have hk := zOk_t c hk
    have hk := zOk_some hk
    exact zr_weak h [0] rfl hk
  · have hk := zOk_f c hk
    refine zr_aload_n h dX2_settle_41 0 rfl rfl ?_
    refine zr_getR h zfo_X2_19 lC_34 rfl dX2_settle_42 ?_
    refine zr_iload_n h dX2_settle_45 1 rfl rfl ?_
    refine zr_aload_n h dX2_settle_46 0 rfl rfl ?_
    refine zr_getR h zfo_X2_9 lC_34 rfl dX2_settle_47 ?_
    refine zr_iload_n h dX2_settle_50 1 rfl rfl ?_
    have hb := zOk_chk hk
    have hk := hb.2
    refine zr_lald h lC_35 hb.1 dX2_settle_51 ?_
    refine zr_callSp h zcw_X2_48 (by decide) (c_X2_lengthOfKey E s.1 (s.1.2 35 (zix s.2)) _ (zOk_bind hk)) rfl rfl (Nat.le_of_ble_eq_true rfl) dX2_settle_52 (fun r_52 hk => ?_)
    have hb := zOk_chk hk
    have hk := hb.2
    refine zr_iast h lC_37 hb.1 dX2_settle_55 ?_
    refine zr_mem (fun M_55 eM => ?_)
    have hk := zOk_bnd eM hk
    obtain ⟨x3_56, ex⟩ : ∃ y : Int32, y = s.2 + (zI 1) := ⟨_, rfl⟩
    have hk := zOk_bnd ex hk
    refine zr_iinc (v := x3_56) (L' := [(0, zrf E 34), (3, .int x3_56)]) h 1 [1, 0] dX2_settle_56 rfl (by rw [ex]; rfl) (by decide) rfl ?_
    refine zr_goto (tgt := 33) h dX2_settle_59 (by decide) ?_
    have hk := zOk_some hk
    exact zr_weak h [0, 1] rfl hk
noncomputable def f_X2_settle (M : ZMem) (x2 : Int32) : Option ZMem := zbnd (zstI M 34 6 (zI 0)) (fun M_2 => zbnd (zstI M_2 34 7 (zI 0)) (fun M_7 => zbind (zloop (f_X2_settle_L12 x2) (M_7, (zI 0))) (fun e12 => zbind (zloop (f_X2_settle_L33) (e12, (zI 0))) (fun e33 => zbind (f_X2_rankWords e33) (fun M_63 => some M_63)))))
set_option maxRecDepth 100000 in
set_option maxHeartbeats 4000000 in
theorem c_X2_settle (E : ZEv) (M : ZMem) (x2 : Int32) (K : ZMem → Prop) (hk : zOk (f_X2_settle M x2) K) : zCon lyC E yX2_settle cX2_settle 4 none 4 [zrf E 34, zrf E 30, .int x2] M (zRv K) := by
  refine zcon_of (L0 := [(0, zrf E 34), (1, zrf E 30), (2, .int x2)]) (by decide) rfl (Nat.le_of_ble_eq_true rfl) (fun G h => ?_)
  have h : zRu lyC E G (zRv K) cX2_settle RX2 4 none 4 := h
  unfold f_X2_settle at hk
  refine zr_aload_n h dX2_settle_0 0 rfl rfl ?_
  refine zr_iconst (v := (zI 0)) h dX2_settle_1 rfl ?_
  refine zr_putI h zfp_X2_37 lC_34 rfl dX2_settle_2 ?_
  refine zr_mem (fun M_2 eM => ?_)
  have hk := zOk_bnd eM hk
  refine zr_aload_n h dX2_settle_5 0 rfl rfl ?_
  refine zr_iconst (v := (zI 0)) h dX2_settle_6 rfl ?_
  refine zr_putI h zfp_X2_41 lC_34 rfl dX2_settle_7 ?_
  refine zr_mem (fun M_7 eM => ?_)
  have hk := zOk_bnd eM hk
  refine zr_iconst (v := (zI 0)) h dX2_settle_10 rfl ?_
  refine zr_istore_n (L' := [(0, zrf E 34), (1, zrf E 30), (2, .int x2), (3, .int (zI 0))]) h [1, 2, 3, 0] dX2_settle_11 rfl (by decide) rfl ?_
  refine w_X2_settle_L12 h x2 (M_7, (zI 0)) (zOk_mono (zOk_bind hk) (fun e12 hk => ?_))
  refine zr_iconst (v := (zI 0)) h dX2_settle_31 rfl ?_
  refine zr_istore_n (L' := [(0, zrf E 34), (3, .int (zI 0))]) h [1, 0] dX2_settle_32 rfl (by decide) rfl ?_
  refine w_X2_settle_L33 h (e12, (zI 0)) (zOk_mono (zOk_bind hk) (fun e33 hk => ?_))
  refine zr_aload_n h dX2_settle_62 0 rfl rfl ?_
  refine zr_callVv h lC_34 zcw_X2_52 (by decide) (c_X2_rankWords E e33 _ (zOk_bind hk)) rfl rfl (Nat.le_of_ble_eq_true rfl) dX2_settle_63 (fun M_63 hk => ?_)
  have hk := zOk_some hk
  exact zr_vret h dX2_settle_66 ⟨rfl, hk⟩
theorem dX2_signAt_0 : decode cX2_signAt 0 = .ok (.aload_n 0, 1) := by decide +kernel
theorem dX2_signAt_1 : decode cX2_signAt 1 = .ok (.iload_n 1, 1) := by decide +kernel
theorem dX2_signAt_2 : decode cX2_signAt 2 = .ok (.invokevirtual 110, 3) := by decide +kernel
theorem dX2_signAt_5 : decode cX2_signAt 5 = .ok (.ifCond .eq 16, 3) := by decide +kernel
theorem dX2_signAt_8 : decode cX2_signAt 8 = .ok (.aload_n 0, 1) := by decide +kernel
theorem dX2_signAt_9 : decode cX2_signAt 9 = .ok (.getfield 9, 3) := by decide +kernel
theorem dX2_signAt_12 : decode cX2_signAt 12 = .ok (.iload_n 1, 1) := by decide +kernel
theorem dX2_signAt_13 : decode cX2_signAt 13 = .ok (.laload, 1) := by decide +kernel
theorem dX2_signAt_14 : decode cX2_signAt 14 = .ok (.iload_n 2, 1) := by decide +kernel
theorem dX2_signAt_15 : decode cX2_signAt 15 = .ok (.invokestatic 33, 3) := by decide +kernel
theorem dX2_signAt_18 : decode cX2_signAt 18 = .ok (.goto 4, 3) := by decide +kernel
theorem dX2_signAt_21 : decode cX2_signAt 21 = .ok (.iconst (-1), 1) := by decide +kernel
theorem dX2_signAt_22 : decode cX2_signAt 22 = .ok (.ireturn, 1) := by decide +kernel
noncomputable def f_X2_signAt (M : ZMem) (x1 : Int32) (x2 : Int32) : Option Int32 := zbind (f_X2_has M x1) (fun r_2 => if r_2 = (zI 0) then some (zI (-1)) else zchk (zin x1 120) (zbind (f_X2_signOfKey M (M.2 35 (zix x1)) x2) (fun r_15 => some r_15)))
set_option maxRecDepth 100000 in
set_option maxHeartbeats 4000000 in
theorem c_X2_signAt (E : ZEv) (M : ZMem) (x1 : Int32) (x2 : Int32) (K : Int32 → Prop) (hk : zOk (f_X2_signAt M x1 x2) K) : zCon lyC E yX2_signAt cX2_signAt 3 (some .int) 1 [zrf E 34, .int x1, .int x2] M (zRp M K) := by
  refine zcon_of (L0 := [(0, zrf E 34), (1, .int x1), (2, .int x2)]) (by decide) rfl (Nat.le_of_ble_eq_true rfl) (fun G h => ?_)
  have h : zRu lyC E G (zRp M K) cX2_signAt RX2 3 (some .int) 1 := h
  unfold f_X2_signAt at hk
  refine zr_aload_n h dX2_signAt_0 0 rfl rfl ?_
  refine zr_iload_n h dX2_signAt_1 1 rfl rfl ?_
  refine zr_callVp h lC_34 zcw_X2_110 (by decide) (c_X2_has E M x1 _ (zOk_bind hk)) rfl rfl (Nat.le_of_ble_eq_true rfl) dX2_signAt_2 (fun r_2 hk => ?_)
  refine zr_if_eq (tgt := 21) h dX2_signAt_5 (by decide) (fun c => ?_) (fun c => ?_)
  · have hk := zOk_t c hk
    refine zr_iconst (v := (zI (-1))) h dX2_signAt_21 rfl ?_
    have hk := zOk_some hk
    exact zr_iret h dX2_signAt_22 ⟨rfl, _, rfl, hk⟩
  · have hk := zOk_f c hk
    refine zr_aload_n h dX2_signAt_8 0 rfl rfl ?_
    refine zr_getR h zfo_X2_9 lC_34 rfl dX2_signAt_9 ?_
    refine zr_iload_n h dX2_signAt_12 1 rfl rfl ?_
    have hb := zOk_chk hk
    have hk := hb.2
    refine zr_lald h lC_35 hb.1 dX2_signAt_13 ?_
    refine zr_iload_n h dX2_signAt_14 2 rfl rfl ?_
    refine zr_callSp h zcw_X2_33 (by decide) (c_X2_signOfKey E M (M.2 35 (zix x1)) x2 _ (zOk_bind hk)) rfl rfl (Nat.le_of_ble_eq_true rfl) dX2_signAt_15 (fun r_15 hk => ?_)
    refine zr_goto (tgt := 22) h dX2_signAt_18 (by decide) ?_
    have hk := zOk_some hk
    exact zr_iret h dX2_signAt_22 ⟨rfl, _, rfl, hk⟩
theorem dX5_isPlace_0 : decode cX5_isPlace 0 = .ok (.iload_n 0, 1) := by decide +kernel
theorem dX5_isPlace_1 : decode cX5_isPlace 1 = .ok (.ifCond .lt 13, 3) := by decide +kernel
theorem dX5_isPlace_4 : decode cX5_isPlace 4 = .ok (.iload_n 0, 1) := by decide +kernel
theorem dX5_isPlace_5 : decode cX5_isPlace 5 = .ok (.bipush 20, 2) := by decide +kernel
theorem dX5_isPlace_7 : decode cX5_isPlace 7 = .ok (.if_icmp .ge 7, 3) := by decide +kernel
theorem dX5_isPlace_10 : decode cX5_isPlace 10 = .ok (.iconst 1, 1) := by decide +kernel
theorem dX5_isPlace_11 : decode cX5_isPlace 11 = .ok (.goto 4, 3) := by decide +kernel
theorem dX5_isPlace_14 : decode cX5_isPlace 14 = .ok (.iconst 0, 1) := by decide +kernel
theorem dX5_isPlace_15 : decode cX5_isPlace 15 = .ok (.ireturn, 1) := by decide +kernel
noncomputable def f_X5_isPlace (M : ZMem) (x0 : Int32) : Option Int32 := if x0 < (zI 0) then some (zI 0) else if (zI 20) ≤ x0 then some (zI 0) else some (zI 1)
set_option maxRecDepth 100000 in
set_option maxHeartbeats 4000000 in
theorem c_X5_isPlace {ly : List ZEnt} (E : ZEv) (M : ZMem) (x0 : Int32) (K : Int32 → Prop) (hk : zOk (f_X5_isPlace M x0) K) : zCon ly E yX5_isPlace cX5_isPlace 1 (some .boolean) 0 [.int x0] M (zRp M K) := by
  refine zcon_of (L0 := [(0, .int x0)]) (by decide) rfl (Nat.le_of_ble_eq_true rfl) (fun G h => ?_)
  have h : zRu ly E G (zRp M K) cX5_isPlace RX5 1 (some .boolean) 0 := h
  unfold f_X5_isPlace at hk
  refine zr_iload_n h dX5_isPlace_0 0 rfl rfl ?_
  refine zr_if_lt (tgt := 14) h dX5_isPlace_1 (by decide) (fun c => ?_) (fun c => ?_)
  · have hk := zOk_t c hk
    refine zr_iconst (v := (zI 0)) h dX5_isPlace_14 rfl ?_
    have hk := zOk_some hk
    exact zr_zret h dX5_isPlace_15 (by decide) ⟨rfl, _, rfl, hk⟩
  · have hk := zOk_f c hk
    refine zr_iload_n h dX5_isPlace_4 0 rfl rfl ?_
    refine zr_bipush (v := (zI 20)) h dX5_isPlace_5 (by decide) ?_
    refine zr_icmp_ge (tgt := 14) h dX5_isPlace_7 (by decide) (fun c => ?_) (fun c => ?_)
    · have hk := zOk_t c hk
      refine zr_iconst (v := (zI 0)) h dX5_isPlace_14 rfl ?_
      have hk := zOk_some hk
      exact zr_zret h dX5_isPlace_15 (by decide) ⟨rfl, _, rfl, hk⟩
    · have hk := zOk_f c hk
      refine zr_iconst (v := (zI 1)) h dX5_isPlace_10 rfl ?_
      refine zr_goto (tgt := 15) h dX5_isPlace_11 (by decide) ?_
      have hk := zOk_some hk
      exact zr_zret h dX5_isPlace_15 (by decide) ⟨rfl, _, rfl, hk⟩
theorem dX5_link_0 : decode cX5_link 0 = .ok (.iload_n 1, 1) := by decide +kernel
theorem dX5_link_1 : decode cX5_link 1 = .ok (.invokestatic 35, 3) := by decide +kernel
theorem dX5_link_4 : decode cX5_link 4 = .ok (.ifCond .eq 33, 3) := by decide +kernel
theorem dX5_link_7 : decode cX5_link 7 = .ok (.iload_n 2, 1) := by decide +kernel
theorem dX5_link_8 : decode cX5_link 8 = .ok (.invokestatic 35, 3) := by decide +kernel
theorem dX5_link_11 : decode cX5_link 11 = .ok (.ifCond .eq 26, 3) := by decide +kernel
theorem dX5_link_14 : decode cX5_link 14 = .ok (.iload_n 1, 1) := by decide +kernel
theorem dX5_link_15 : decode cX5_link 15 = .ok (.iload_n 2, 1) := by decide +kernel
theorem dX5_link_16 : decode cX5_link 16 = .ok (.if_icmp .eq 21, 3) := by decide +kernel
theorem dX5_link_19 : decode cX5_link 19 = .ok (.aload_n 0, 1) := by decide +kernel
theorem dX5_link_20 : decode cX5_link 20 = .ok (.iload_n 1, 1) := by decide +kernel
theorem dX5_link_21 : decode cX5_link 21 = .ok (.dup2, 1) := by decide +kernel
theorem dX5_link_22 : decode cX5_link 22 = .ok (.iaload, 1) := by decide +kernel
theorem dX5_link_23 : decode cX5_link 23 = .ok (.iconst 1, 1) := by decide +kernel
theorem dX5_link_24 : decode cX5_link 24 = .ok (.iload_n 2, 1) := by decide +kernel
theorem dX5_link_25 : decode cX5_link 25 = .ok (.ishl, 1) := by decide +kernel
theorem dX5_link_26 : decode cX5_link 26 = .ok (.ior, 1) := by decide +kernel
theorem dX5_link_27 : decode cX5_link 27 = .ok (.iastore, 1) := by decide +kernel
theorem dX5_link_28 : decode cX5_link 28 = .ok (.aload_n 0, 1) := by decide +kernel
theorem dX5_link_29 : decode cX5_link 29 = .ok (.iload_n 2, 1) := by decide +kernel
theorem dX5_link_30 : decode cX5_link 30 = .ok (.dup2, 1) := by decide +kernel
theorem dX5_link_31 : decode cX5_link 31 = .ok (.iaload, 1) := by decide +kernel
theorem dX5_link_32 : decode cX5_link 32 = .ok (.iconst 1, 1) := by decide +kernel
theorem dX5_link_33 : decode cX5_link 33 = .ok (.iload_n 1, 1) := by decide +kernel
theorem dX5_link_34 : decode cX5_link 34 = .ok (.ishl, 1) := by decide +kernel
theorem dX5_link_35 : decode cX5_link 35 = .ok (.ior, 1) := by decide +kernel
theorem dX5_link_36 : decode cX5_link 36 = .ok (.iastore, 1) := by decide +kernel
theorem dX5_link_37 : decode cX5_link 37 = .ok (.return_, 1) := by decide +kernel
noncomputable def f_X5_link (q0 : Nat) (n0 : Nat) (M : ZMem) (x1 : Int32) (x2 : Int32) : Option ZMem := zbind (f_X5_isPlace M x1) (fun r_1 => if r_1 = (zI 0) then some M else zbind (f_X5_isPlace M x2) (fun r_8 => if r_8 = (zI 0) then some M else if x1 = x2 then some M else zchk (zin x1 n0) (zchk (zin x1 n0) (zbnd (zstI M q0 (zix x1) ((M.1 q0 (zix x1)) ||| ((zI 1) <<< (x2 &&& 31)))) (fun M_27 => zchk (zin x2 n0) (zchk (zin x2 n0) (zbnd (zstI M_27 q0 (zix x2) ((M_27.1 q0 (zix x2)) ||| ((zI 1) <<< (x1 &&& 31)))) (fun M_36 => some M_36))))))))
set_option maxRecDepth 100000 in
set_option maxHeartbeats 4000000 in
theorem c_X5_link {ly : List ZEnt} (E : ZEv) (q0 : Nat) (n0 : Nat) (hq0 : ly[q0]? = some (.inl (0, n0))) (M : ZMem) (x1 : Int32) (x2 : Int32) (K : ZMem → Prop) (hk : zOk (f_X5_link q0 n0 M x1 x2) K) : zCon ly E yX5_link cX5_link 3 none 1 [zrf E q0, .int x1, .int x2] M (zRv K) := by
  refine zcon_of (L0 := [(0, zrf E q0), (1, .int x1), (2, .int x2)]) (by decide) rfl (Nat.le_of_ble_eq_true rfl) (fun G h => ?_)
  have h : zRu ly E G (zRv K) cX5_link RX5 3 none 1 := h
  unfold f_X5_link at hk
  refine zr_iload_n h dX5_link_0 1 rfl rfl ?_
  refine zr_callSp h zcw_X5_35 (by decide) (c_X5_isPlace E M x1 _ (zOk_bind hk)) rfl rfl (Nat.le_of_ble_eq_true rfl) dX5_link_1 (fun r_1 hk => ?_)
  refine zr_if_eq (tgt := 37) h dX5_link_4 (by decide) (fun c => ?_) (fun c => ?_)
  · have hk := zOk_t c hk
    have hk := zOk_some hk
    exact zr_vret h dX5_link_37 ⟨rfl, hk⟩
  · have hk := zOk_f c hk
    refine zr_iload_n h dX5_link_7 2 rfl rfl ?_
    refine zr_callSp h zcw_X5_35 (by decide) (c_X5_isPlace E M x2 _ (zOk_bind hk)) rfl rfl (Nat.le_of_ble_eq_true rfl) dX5_link_8 (fun r_8 hk => ?_)
    refine zr_if_eq (tgt := 37) h dX5_link_11 (by decide) (fun c => ?_) (fun c => ?_)
    · have hk := zOk_t c hk
      have hk := zOk_some hk
      exact zr_vret h dX5_link_37 ⟨rfl, hk⟩
    · have hk := zOk_f c hk
      refine zr_iload_n h dX5_link_14 1 rfl rfl ?_
      refine zr_iload_n h dX5_link_15 2 rfl rfl ?_
      refine zr_icmp_eq (tgt := 37) h dX5_link_16 (by decide) (fun c => ?_) (fun c => ?_)
      · have hk := zOk_t c hk
        have hk := zOk_some hk
        exact zr_vret h dX5_link_37 ⟨rfl, hk⟩
      · have hk := zOk_f c hk
        refine zr_aload_n h dX5_link_19 0 rfl rfl ?_
        refine zr_iload_n h dX5_link_20 1 rfl rfl ?_
        refine zr_dup2_11 h dX5_link_21 rfl rfl ?_
        have hb := zOk_chk hk
        have hk := hb.2
        refine zr_iald h hq0 hb.1 dX5_link_22 ?_
        refine zr_iconst (v := (zI 1)) h dX5_link_23 rfl ?_
        refine zr_iload_n h dX5_link_24 2 rfl rfl ?_
        refine zr_ishl h dX5_link_25 ?_
        refine zr_ior h dX5_link_26 ?_
        have hb := zOk_chk hk
        have hk := hb.2
        refine zr_iast h hq0 hb.1 dX5_link_27 ?_
        refine zr_mem (fun M_27 eM => ?_)
        have hk := zOk_bnd eM hk
        refine zr_aload_n h dX5_link_28 0 rfl rfl ?_
        refine zr_iload_n h dX5_link_29 2 rfl rfl ?_
        refine zr_dup2_11 h dX5_link_30 rfl rfl ?_
        have hb := zOk_chk hk
        have hk := hb.2
        refine zr_iald h hq0 hb.1 dX5_link_31 ?_
        refine zr_iconst (v := (zI 1)) h dX5_link_32 rfl ?_
        refine zr_iload_n h dX5_link_33 1 rfl rfl ?_
        refine zr_ishl h dX5_link_34 ?_
        refine zr_ior h dX5_link_35 ?_
        have hb := zOk_chk hk
        have hk := hb.2
        refine zr_iast h hq0 hb.1 dX5_link_36 ?_
        refine zr_mem (fun M_36 eM => ?_)
        have hk := zOk_bnd eM hk
        have hk := zOk_some hk
        exact zr_vret h dX5_link_37 ⟨rfl, hk⟩
theorem dX5_linkByWords_0 : decode cX5_linkByWords 0 = .ok (.aload_n 0, 1) := by decide +kernel
theorem dX5_linkByWords_1 : decode cX5_linkByWords 1 = .ok (.getfield 9, 3) := by decide +kernel
theorem dX5_linkByWords_4 : decode cX5_linkByWords 4 = .ok (.iload_n 1, 1) := by decide +kernel
theorem dX5_linkByWords_5 : decode cX5_linkByWords 5 = .ok (.iload_n 2, 1) := by decide +kernel
theorem dX5_linkByWords_6 : decode cX5_linkByWords 6 = .ok (.invokestatic 31, 3) := by decide +kernel
theorem dX5_linkByWords_9 : decode cX5_linkByWords 9 = .ok (.return_, 1) := by decide +kernel
noncomputable def f_X5_linkByWords (q : Nat) (M : ZMem) (x1 : Int32) (x2 : Int32) : Option ZMem := zbind (f_X5_link (q + 1) 20 M x1 x2) (fun M_6 => some M_6)
set_option maxRecDepth 100000 in
set_option maxHeartbeats 4000000 in
theorem c_X5_linkByWords (E : ZEv) (q : Nat) (hq0 : lyC[q]? = some (.inr (5, [none, some (q + 1), some (q + 2), some (q + 3)]))) (hq1 : lyC[q + 1]? = some (.inl (0, 20))) (hq2 : lyC[q + 2]? = some (.inl (0, 20))) (hq3 : lyC[q + 3]? = some (.inl (0, 20))) (M : ZMem) (x1 : Int32) (x2 : Int32) (K : ZMem → Prop) (hk : zOk (f_X5_linkByWords q M x1 x2) K) : zCon lyC E yX5_linkByWords cX5_linkByWords 3 none 2 [zrf E q, .int x1, .int x2] M (zRv K) := by
  refine zcon_of (L0 := [(0, zrf E q), (1, .int x1), (2, .int x2)]) (by decide) rfl (Nat.le_of_ble_eq_true rfl) (fun G h => ?_)
  have h : zRu lyC E G (zRv K) cX5_linkByWords RX5 3 none 2 := h
  unfold f_X5_linkByWords at hk
  refine zr_aload_n h dX5_linkByWords_0 0 rfl rfl ?_
  refine zr_getR h zfo_X5_9 hq0 rfl dX5_linkByWords_1 ?_
  refine zr_iload_n h dX5_linkByWords_4 1 rfl rfl ?_
  refine zr_iload_n h dX5_linkByWords_5 2 rfl rfl ?_
  refine zr_callSv h zcw_X5_31 (by decide) (c_X5_link E (q + 1) 20 hq1 M x1 x2 _ (zOk_bind hk)) rfl rfl (Nat.le_of_ble_eq_true rfl) dX5_linkByWords_6 (fun M_6 hk => ?_)
  have hk := zOk_some hk
  exact zr_vret h dX5_linkByWords_9 ⟨rfl, hk⟩
theorem dX2_addEndings_0 : decode cX2_addEndings 0 = .ok (.iconst 0, 1) := by decide +kernel
theorem dX2_addEndings_1 : decode cX2_addEndings 1 = .ok (.istore 4, 2) := by decide +kernel
theorem dX2_addEndings_3 : decode cX2_addEndings 3 = .ok (.iload 4, 2) := by decide +kernel
theorem dX2_addEndings_5 : decode cX2_addEndings 5 = .ok (.aload_n 0, 1) := by decide +kernel
theorem dX2_addEndings_6 : decode cX2_addEndings 6 = .ok (.getfield 90, 3) := by decide +kernel
theorem dX2_addEndings_9 : decode cX2_addEndings 9 = .ok (.if_icmp .ge 21, 3) := by decide +kernel
theorem dX2_addEndings_12 : decode cX2_addEndings 12 = .ok (.aload_n 0, 1) := by decide +kernel
theorem dX2_addEndings_13 : decode cX2_addEndings 13 = .ok (.getfield 25, 3) := by decide +kernel
theorem dX2_addEndings_16 : decode cX2_addEndings 16 = .ok (.iload 4, 2) := by decide +kernel
theorem dX2_addEndings_18 : decode cX2_addEndings 18 = .ok (.laload, 1) := by decide +kernel
theorem dX2_addEndings_19 : decode cX2_addEndings 19 = .ok (.lload_n 1, 1) := by decide +kernel
theorem dX2_addEndings_20 : decode cX2_addEndings 20 = .ok (.lcmp, 1) := by decide +kernel
theorem dX2_addEndings_21 : decode cX2_addEndings 21 = .ok (.ifCond .ge 9, 3) := by decide +kernel
theorem dX2_addEndings_24 : decode cX2_addEndings 24 = .ok (.iinc 4 1, 3) := by decide +kernel
theorem dX2_addEndings_27 : decode cX2_addEndings 27 = .ok (.goto (-24), 3) := by decide +kernel
theorem dX2_addEndings_30 : decode cX2_addEndings 30 = .ok (.iload 4, 2) := by decide +kernel
theorem dX2_addEndings_32 : decode cX2_addEndings 32 = .ok (.aload_n 0, 1) := by decide +kernel
theorem dX2_addEndings_33 : decode cX2_addEndings 33 = .ok (.getfield 90, 3) := by decide +kernel
theorem dX2_addEndings_36 : decode cX2_addEndings 36 = .ok (.if_icmp .ge 29, 3) := by decide +kernel
theorem dX2_addEndings_39 : decode cX2_addEndings 39 = .ok (.aload_n 0, 1) := by decide +kernel
theorem dX2_addEndings_40 : decode cX2_addEndings 40 = .ok (.getfield 25, 3) := by decide +kernel
theorem dX2_addEndings_43 : decode cX2_addEndings 43 = .ok (.iload 4, 2) := by decide +kernel
theorem dX2_addEndings_45 : decode cX2_addEndings 45 = .ok (.laload, 1) := by decide +kernel
theorem dX2_addEndings_46 : decode cX2_addEndings 46 = .ok (.lload_n 1, 1) := by decide +kernel
theorem dX2_addEndings_47 : decode cX2_addEndings 47 = .ok (.lcmp, 1) := by decide +kernel
theorem dX2_addEndings_48 : decode cX2_addEndings 48 = .ok (.ifCond .ne 17, 3) := by decide +kernel
theorem dX2_addEndings_51 : decode cX2_addEndings 51 = .ok (.aload_n 0, 1) := by decide +kernel
theorem dX2_addEndings_52 : decode cX2_addEndings 52 = .ok (.getfield 28, 3) := by decide +kernel
theorem dX2_addEndings_55 : decode cX2_addEndings 55 = .ok (.iload 4, 2) := by decide +kernel
theorem dX2_addEndings_57 : decode cX2_addEndings 57 = .ok (.dup2, 1) := by decide +kernel
theorem dX2_addEndings_58 : decode cX2_addEndings 58 = .ok (.iaload, 1) := by decide +kernel
theorem dX2_addEndings_59 : decode cX2_addEndings 59 = .ok (.iload_n 3, 1) := by decide +kernel
theorem dX2_addEndings_60 : decode cX2_addEndings 60 = .ok (.ior, 1) := by decide +kernel
theorem dX2_addEndings_61 : decode cX2_addEndings 61 = .ok (.iastore, 1) := by decide +kernel
theorem dX2_addEndings_62 : decode cX2_addEndings 62 = .ok (.goto 86, 3) := by decide +kernel
theorem dX2_addEndings_65 : decode cX2_addEndings 65 = .ok (.aload_n 0, 1) := by decide +kernel
theorem dX2_addEndings_66 : decode cX2_addEndings 66 = .ok (.getfield 90, 3) := by decide +kernel
theorem dX2_addEndings_69 : decode cX2_addEndings 69 = .ok (.bipush 60, 2) := by decide +kernel
theorem dX2_addEndings_71 : decode cX2_addEndings 71 = .ok (.if_icmp .ge 77, 3) := by decide +kernel
theorem dX2_addEndings_74 : decode cX2_addEndings 74 = .ok (.aload_n 0, 1) := by decide +kernel
theorem dX2_addEndings_75 : decode cX2_addEndings 75 = .ok (.getfield 25, 3) := by decide +kernel
theorem dX2_addEndings_78 : decode cX2_addEndings 78 = .ok (.iload 4, 2) := by decide +kernel
theorem dX2_addEndings_80 : decode cX2_addEndings 80 = .ok (.aload_n 0, 1) := by decide +kernel
theorem dX2_addEndings_81 : decode cX2_addEndings 81 = .ok (.getfield 25, 3) := by decide +kernel
theorem dX2_addEndings_84 : decode cX2_addEndings 84 = .ok (.iload 4, 2) := by decide +kernel
theorem dX2_addEndings_86 : decode cX2_addEndings 86 = .ok (.iconst 1, 1) := by decide +kernel
theorem dX2_addEndings_87 : decode cX2_addEndings 87 = .ok (.iadd, 1) := by decide +kernel
theorem dX2_addEndings_88 : decode cX2_addEndings 88 = .ok (.aload_n 0, 1) := by decide +kernel
theorem dX2_addEndings_89 : decode cX2_addEndings 89 = .ok (.getfield 90, 3) := by decide +kernel
theorem dX2_addEndings_92 : decode cX2_addEndings 92 = .ok (.iload 4, 2) := by decide +kernel
theorem dX2_addEndings_94 : decode cX2_addEndings 94 = .ok (.isub, 1) := by decide +kernel
theorem dX2_addEndings_95 : decode cX2_addEndings 95 = .ok (.invokestatic 81, 3) := by decide +kernel
theorem dX2_addEndings_98 : decode cX2_addEndings 98 = .ok (.aload_n 0, 1) := by decide +kernel
theorem dX2_addEndings_99 : decode cX2_addEndings 99 = .ok (.getfield 28, 3) := by decide +kernel
theorem dX2_addEndings_102 : decode cX2_addEndings 102 = .ok (.iload 4, 2) := by decide +kernel
theorem dX2_addEndings_104 : decode cX2_addEndings 104 = .ok (.aload_n 0, 1) := by decide +kernel
theorem dX2_addEndings_105 : decode cX2_addEndings 105 = .ok (.getfield 28, 3) := by decide +kernel
theorem dX2_addEndings_108 : decode cX2_addEndings 108 = .ok (.iload 4, 2) := by decide +kernel
theorem dX2_addEndings_110 : decode cX2_addEndings 110 = .ok (.iconst 1, 1) := by decide +kernel
theorem dX2_addEndings_111 : decode cX2_addEndings 111 = .ok (.iadd, 1) := by decide +kernel
theorem dX2_addEndings_112 : decode cX2_addEndings 112 = .ok (.aload_n 0, 1) := by decide +kernel
theorem dX2_addEndings_113 : decode cX2_addEndings 113 = .ok (.getfield 90, 3) := by decide +kernel
theorem dX2_addEndings_116 : decode cX2_addEndings 116 = .ok (.iload 4, 2) := by decide +kernel
theorem dX2_addEndings_118 : decode cX2_addEndings 118 = .ok (.isub, 1) := by decide +kernel
theorem dX2_addEndings_119 : decode cX2_addEndings 119 = .ok (.invokestatic 81, 3) := by decide +kernel
theorem dX2_addEndings_122 : decode cX2_addEndings 122 = .ok (.aload_n 0, 1) := by decide +kernel
theorem dX2_addEndings_123 : decode cX2_addEndings 123 = .ok (.getfield 25, 3) := by decide +kernel
theorem dX2_addEndings_126 : decode cX2_addEndings 126 = .ok (.iload 4, 2) := by decide +kernel
theorem dX2_addEndings_128 : decode cX2_addEndings 128 = .ok (.lload_n 1, 1) := by decide +kernel
theorem dX2_addEndings_129 : decode cX2_addEndings 129 = .ok (.lastore, 1) := by decide +kernel
theorem dX2_addEndings_130 : decode cX2_addEndings 130 = .ok (.aload_n 0, 1) := by decide +kernel
theorem dX2_addEndings_131 : decode cX2_addEndings 131 = .ok (.getfield 28, 3) := by decide +kernel
theorem dX2_addEndings_134 : decode cX2_addEndings 134 = .ok (.iload 4, 2) := by decide +kernel
theorem dX2_addEndings_136 : decode cX2_addEndings 136 = .ok (.iload_n 3, 1) := by decide +kernel
theorem dX2_addEndings_137 : decode cX2_addEndings 137 = .ok (.iastore, 1) := by decide +kernel
theorem dX2_addEndings_138 : decode cX2_addEndings 138 = .ok (.aload_n 0, 1) := by decide +kernel
theorem dX2_addEndings_139 : decode cX2_addEndings 139 = .ok (.dup, 1) := by decide +kernel
theorem dX2_addEndings_140 : decode cX2_addEndings 140 = .ok (.getfield 90, 3) := by decide +kernel
theorem dX2_addEndings_143 : decode cX2_addEndings 143 = .ok (.iconst 1, 1) := by decide +kernel
theorem dX2_addEndings_144 : decode cX2_addEndings 144 = .ok (.iadd, 1) := by decide +kernel
theorem dX2_addEndings_145 : decode cX2_addEndings 145 = .ok (.putfield 90, 3) := by decide +kernel
theorem dX2_addEndings_148 : decode cX2_addEndings 148 = .ok (.return_, 1) := by decide +kernel
noncomputable def f_X2_addEndings_L3 (M : ZMem) (x1 : Int64) (x3 : Int32) (s : (Int32)) : Option ((Int32) ⊕ (Int32)) := if (M.1 34 8) ≤ s then some (.inr s) else zchk (zin s 60) (if (zI 0) ≤ (lg_cmp (M.2 39 (zix s)) x1) then some (.inr s) else zbnd (s + (zI 1)) (fun x4_24 => some (.inl x4_24)))
set_option maxRecDepth 100000 in
set_option maxHeartbeats 4000000 in
theorem w_X2_addEndings_L3 {E : ZEv} {G : ZG} {K : ZMem → Prop} (h : zRu lyC E G (zRv K) cX2_addEndings RX2 5 none 0) (M : ZMem) (x1 : Int64) (x3 : Int32) (s : (Int32)) (hk : zOk (zloop (f_X2_addEndings_L3 M x1 x3) s) (fun e => G M 30 [(0, zrf E 34), (1, .long x1), (3, .int x3), (4, .int e)] [])) : G M 3 [(0, zrf E 34), (1, .long x1), (3, .int x3), (4, .int s)] [] := by
  refine zloop_walk (P := fun s => G M 3 [(0, zrf E 34), (1, .long x1), (3, .int x3), (4, .int s)] []) hk (fun s hk => ?_)
  unfold f_X2_addEndings_L3 at hk
  refine zr_iload h dX2_addEndings_3 3 rfl ?_
  refine zr_aload_n h dX2_addEndings_5 0 rfl rfl ?_
  refine zr_getI h zfo_X2_90 lC_34 rfl dX2_addEndings_6 ?_
  refine zr_icmp_ge (tgt := 30) h dX2_addEndings_9 (by decide) (fun c => ?_) (fun c => ?_)
  · have hk := zOk_t c hk
    have hk := zOk_some hk
    exact zr_weak h [0, 1, 2, 3] rfl hk
  · have hk := zOk_f c hk
    refine zr_aload_n h dX2_addEndings_12 0 rfl rfl ?_
    refine zr_getR h zfo_X2_25 lC_34 rfl dX2_addEndings_13 ?_
    refine zr_iload h dX2_addEndings_16 3 rfl ?_
    have hb := zOk_chk hk
    have hk := hb.2
    refine zr_lald h lC_39 hb.1 dX2_addEndings_18 ?_
    refine zr_lload_n h dX2_addEndings_19 1 rfl rfl ?_
    refine zr_lcmp h dX2_addEndings_20 ?_
    refine zr_if_ge (tgt := 30) h dX2_addEndings_21 (by decide) (fun c => ?_) (fun c => ?_)
    · have hk := zOk_t c hk
      have hk := zOk_some hk
      exact zr_weak h [0, 1, 2, 3] rfl hk
    · have hk := zOk_f c hk
      obtain ⟨x4_24, ex⟩ : ∃ y : Int32, y = s + (zI 1) := ⟨_, rfl⟩
      have hk := zOk_bnd ex hk
      refine zr_iinc (v := x4_24) (L' := [(0, zrf E 34), (1, .long x1), (3, .int x3), (4, .int x4_24)]) h 3 [1, 2, 3, 0] dX2_addEndings_24 rfl (by rw [ex]; rfl) (by decide) rfl ?_
      refine zr_goto (tgt := 3) h dX2_addEndings_27 (by decide) ?_
      have hk := zOk_some hk
      exact zr_weak h [0, 1, 2, 3] rfl hk
noncomputable def f_X2_addEndings_65 (M : ZMem) (x1 : Int64) (x3 : Int32) (x4 : Int32) : Option ZMem := if (zI 60) ≤ (M.1 34 8) then some M else zchk (zcp x4 (x4 + (zI 1)) ((M.1 34 8) - x4) 60 60) (zbnd (zstG M 39 (va_cpy (M.2 39) (M.2 39) (zix x4) (zix (x4 + (zI 1))) (zix ((M.1 34 8) - x4)))) (fun M_95 => zchk (zcp x4 (x4 + (zI 1)) ((M_95.1 34 8) - x4) 60 60) (zbnd (zstF M_95 40 (va_cpy (M_95.1 40) (M_95.1 40) (zix x4) (zix (x4 + (zI 1))) (zix ((M_95.1 34 8) - x4)))) (fun M_119 => zchk (zin x4 60) (zbnd (zstL M_119 39 (zix x4) x1) (fun M_129 => zchk (zin x4 60) (zbnd (zstI M_129 40 (zix x4) x3) (fun M_137 => zbnd (zstI M_137 34 8 ((M_137.1 34 8) + (zI 1))) (fun M_145 => some M_145)))))))))
set_option maxRecDepth 100000 in
set_option maxHeartbeats 4000000 in
theorem w_X2_addEndings_65 {E : ZEv} {G : ZG} {K : ZMem → Prop} (h : zRu lyC E G (zRv K) cX2_addEndings RX2 5 none 0) (M : ZMem) (x1 : Int64) (x3 : Int32) (x4 : Int32) (hk : zOk (f_X2_addEndings_65 M x1 x3 x4) K) : G M 65 [(0, zrf E 34), (1, .long x1), (3, .int x3), (4, .int x4)] [] := by
  unfold f_X2_addEndings_65 at hk
  refine zr_aload_n h dX2_addEndings_65 0 rfl rfl ?_
  refine zr_getI h zfo_X2_90 lC_34 rfl dX2_addEndings_66 ?_
  refine zr_bipush (v := (zI 60)) h dX2_addEndings_69 (by decide) ?_
  refine zr_icmp_ge (tgt := 148) h dX2_addEndings_71 (by decide) (fun c => ?_) (fun c => ?_)
  · have hk := zOk_t c hk
    have hk := zOk_some hk
    exact zr_vret h dX2_addEndings_148 ⟨rfl, hk⟩
  · have hk := zOk_f c hk
    refine zr_aload_n h dX2_addEndings_74 0 rfl rfl ?_
    refine zr_getR h zfo_X2_25 lC_34 rfl dX2_addEndings_75 ?_
    refine zr_iload h dX2_addEndings_78 3 rfl ?_
    refine zr_aload_n h dX2_addEndings_80 0 rfl rfl ?_
    refine zr_getR h zfo_X2_25 lC_34 rfl dX2_addEndings_81 ?_
    refine zr_iload h dX2_addEndings_84 3 rfl ?_
    refine zr_iconst (v := (zI 1)) h dX2_addEndings_86 rfl ?_
    refine zr_iadd h dX2_addEndings_87 ?_
    refine zr_aload_n h dX2_addEndings_88 0 rfl rfl ?_
    refine zr_getI h zfo_X2_90 lC_34 rfl dX2_addEndings_89 ?_
    refine zr_iload h dX2_addEndings_92 3 rfl ?_
    refine zr_isub h dX2_addEndings_94 ?_
    have hb := zOk_chk hk
    have hk := hb.2
    refine zr_copyl h zac_X2_81 lC_39 lC_39 hb.1 (Nat.le_of_ble_eq_true rfl) dX2_addEndings_95 ?_
    refine zr_mem (fun M_95 eM => ?_)
    have hk := zOk_bnd eM hk
    refine zr_aload_n h dX2_addEndings_98 0 rfl rfl ?_
    refine zr_getR h zfo_X2_28 lC_34 rfl dX2_addEndings_99 ?_
    refine zr_iload h dX2_addEndings_102 3 rfl ?_
    refine zr_aload_n h dX2_addEndings_104 0 rfl rfl ?_
    refine zr_getR h zfo_X2_28 lC_34 rfl dX2_addEndings_105 ?_
    refine zr_iload h dX2_addEndings_108 3 rfl ?_
    refine zr_iconst (v := (zI 1)) h dX2_addEndings_110 rfl ?_
    refine zr_iadd h dX2_addEndings_111 ?_
    refine zr_aload_n h dX2_addEndings_112 0 rfl rfl ?_
    refine zr_getI h zfo_X2_90 lC_34 rfl dX2_addEndings_113 ?_
    refine zr_iload h dX2_addEndings_116 3 rfl ?_
    refine zr_isub h dX2_addEndings_118 ?_
    have hb := zOk_chk hk
    have hk := hb.2
    refine zr_copyi h zac_X2_81 lC_40 lC_40 hb.1 (Nat.le_of_ble_eq_true rfl) dX2_addEndings_119 ?_
    refine zr_mem (fun M_119 eM => ?_)
    have hk := zOk_bnd eM hk
    refine zr_aload_n h dX2_addEndings_122 0 rfl rfl ?_
    refine zr_getR h zfo_X2_25 lC_34 rfl dX2_addEndings_123 ?_
    refine zr_iload h dX2_addEndings_126 3 rfl ?_
    refine zr_lload_n h dX2_addEndings_128 1 rfl rfl ?_
    have hb := zOk_chk hk
    have hk := hb.2
    refine zr_last h lC_39 hb.1 dX2_addEndings_129 ?_
    refine zr_mem (fun M_129 eM => ?_)
    have hk := zOk_bnd eM hk
    refine zr_aload_n h dX2_addEndings_130 0 rfl rfl ?_
    refine zr_getR h zfo_X2_28 lC_34 rfl dX2_addEndings_131 ?_
    refine zr_iload h dX2_addEndings_134 3 rfl ?_
    refine zr_iload_n h dX2_addEndings_136 2 rfl rfl ?_
    have hb := zOk_chk hk
    have hk := hb.2
    refine zr_iast h lC_40 hb.1 dX2_addEndings_137 ?_
    refine zr_mem (fun M_137 eM => ?_)
    have hk := zOk_bnd eM hk
    refine zr_aload_n h dX2_addEndings_138 0 rfl rfl ?_
    refine zr_dup h dX2_addEndings_139 rfl ?_
    refine zr_getI h zfo_X2_90 lC_34 rfl dX2_addEndings_140 ?_
    refine zr_iconst (v := (zI 1)) h dX2_addEndings_143 rfl ?_
    refine zr_iadd h dX2_addEndings_144 ?_
    refine zr_putI h zfp_X2_90 lC_34 rfl dX2_addEndings_145 ?_
    refine zr_mem (fun M_145 eM => ?_)
    have hk := zOk_bnd eM hk
    have hk := zOk_some hk
    exact zr_vret h dX2_addEndings_148 ⟨rfl, hk⟩
noncomputable def f_X2_addEndings (M : ZMem) (x1 : Int64) (x3 : Int32) : Option ZMem := zbind (zloop (f_X2_addEndings_L3 M x1 x3) (zI 0)) (fun e3 => if (M.1 34 8) ≤ e3 then f_X2_addEndings_65 M x1 x3 e3 else zchk (zin e3 60) (if (lg_cmp (M.2 39 (zix e3)) x1) = (zI 0) then zchk (zin e3 60) (zchk (zin e3 60) (zbnd (zstI M 40 (zix e3) ((M.1 40 (zix e3)) ||| x3)) (fun M_61 => some M_61))) else f_X2_addEndings_65 M x1 x3 e3))
set_option maxRecDepth 100000 in
set_option maxHeartbeats 4000000 in
theorem c_X2_addEndings (E : ZEv) (M : ZMem) (x1 : Int64) (x3 : Int32) (K : ZMem → Prop) (hk : zOk (f_X2_addEndings M x1 x3) K) : zCon lyC E yX2_addEndings cX2_addEndings 5 none 0 [zrf E 34, .long x1, .int x3] M (zRv K) := by
  refine zcon_of (L0 := [(0, zrf E 34), (1, .long x1), (3, .int x3)]) (by decide) rfl (Nat.le_of_ble_eq_true rfl) (fun G h => ?_)
  have h : zRu lyC E G (zRv K) cX2_addEndings RX2 5 none 0 := h
  unfold f_X2_addEndings at hk
  refine zr_iconst (v := (zI 0)) h dX2_addEndings_0 rfl ?_
  refine zr_istore (L' := [(0, zrf E 34), (1, .long x1), (3, .int x3), (4, .int (zI 0))]) h [1, 2, 3, 0] dX2_addEndings_1 (by decide) rfl ?_
  refine w_X2_addEndings_L3 h M x1 x3 (zI 0) (zOk_mono (zOk_bind hk) (fun e3 hk => ?_))
  refine zr_iload h dX2_addEndings_30 3 rfl ?_
  refine zr_aload_n h dX2_addEndings_32 0 rfl rfl ?_
  refine zr_getI h zfo_X2_90 lC_34 rfl dX2_addEndings_33 ?_
  refine zr_icmp_ge (tgt := 65) h dX2_addEndings_36 (by decide) (fun c => ?_) (fun c => ?_)
  · have hk := zOk_t c hk
    exact w_X2_addEndings_65 h M x1 x3 e3 hk
  · have hk := zOk_f c hk
    refine zr_aload_n h dX2_addEndings_39 0 rfl rfl ?_
    refine zr_getR h zfo_X2_25 lC_34 rfl dX2_addEndings_40 ?_
    refine zr_iload h dX2_addEndings_43 3 rfl ?_
    have hb := zOk_chk hk
    have hk := hb.2
    refine zr_lald h lC_39 hb.1 dX2_addEndings_45 ?_
    refine zr_lload_n h dX2_addEndings_46 1 rfl rfl ?_
    refine zr_lcmp h dX2_addEndings_47 ?_
    refine zr_if_ne (tgt := 65) h dX2_addEndings_48 (by decide) (fun c => ?_) (fun c => ?_)
    · have hk := zOk_t c hk
      refine zr_aload_n h dX2_addEndings_51 0 rfl rfl ?_
      refine zr_getR h zfo_X2_28 lC_34 rfl dX2_addEndings_52 ?_
      refine zr_iload h dX2_addEndings_55 3 rfl ?_
      refine zr_dup2_11 h dX2_addEndings_57 rfl rfl ?_
      have hb := zOk_chk hk
      have hk := hb.2
      refine zr_iald h lC_40 hb.1 dX2_addEndings_58 ?_
      refine zr_iload_n h dX2_addEndings_59 2 rfl rfl ?_
      refine zr_ior h dX2_addEndings_60 ?_
      have hb := zOk_chk hk
      have hk := hb.2
      refine zr_iast h lC_40 hb.1 dX2_addEndings_61 ?_
      refine zr_mem (fun M_61 eM => ?_)
      have hk := zOk_bnd eM hk
      refine zr_goto (tgt := 148) h dX2_addEndings_62 (by decide) ?_
      have hk := zOk_some hk
      exact zr_vret h dX2_addEndings_148 ⟨rfl, hk⟩
    · have hk := zOk_f c hk
      exact w_X2_addEndings_65 h M x1 x3 e3 hk
theorem dX2_compareTwo_0 : decode cX2_compareTwo 0 = .ok (.aload_n 0, 1) := by decide +kernel
theorem dX2_compareTwo_1 : decode cX2_compareTwo 1 = .ok (.getfield 19, 3) := by decide +kernel
theorem dX2_compareTwo_4 : decode cX2_compareTwo 4 = .ok (.iload_n 1, 1) := by decide +kernel
theorem dX2_compareTwo_5 : decode cX2_compareTwo 5 = .ok (.iaload, 1) := by decide +kernel
theorem dX2_compareTwo_6 : decode cX2_compareTwo 6 = .ok (.iconst 1, 1) := by decide +kernel
theorem dX2_compareTwo_7 : decode cX2_compareTwo 7 = .ok (.isub, 1) := by decide +kernel
theorem dX2_compareTwo_8 : decode cX2_compareTwo 8 = .ok (.istore 5, 2) := by decide +kernel
theorem dX2_compareTwo_10 : decode cX2_compareTwo 10 = .ok (.ldc2_w 31, 3) := by decide +kernel
theorem dX2_compareTwo_13 : decode cX2_compareTwo 13 = .ok (.iload 5, 2) := by decide +kernel
theorem dX2_compareTwo_15 : decode cX2_compareTwo 15 = .ok (.invokestatic 74, 3) := by decide +kernel
theorem dX2_compareTwo_18 : decode cX2_compareTwo 18 = .ok (.lshl, 1) := by decide +kernel
theorem dX2_compareTwo_19 : decode cX2_compareTwo 19 = .ok (.lstore 6, 2) := by decide +kernel
theorem dX2_compareTwo_21 : decode cX2_compareTwo 21 = .ok (.ldc2_w 31, 3) := by decide +kernel
theorem dX2_compareTwo_24 : decode cX2_compareTwo 24 = .ok (.iconst 0, 1) := by decide +kernel
theorem dX2_compareTwo_25 : decode cX2_compareTwo 25 = .ok (.invokestatic 74, 3) := by decide +kernel
theorem dX2_compareTwo_28 : decode cX2_compareTwo 28 = .ok (.lshl, 1) := by decide +kernel
theorem dX2_compareTwo_29 : decode cX2_compareTwo 29 = .ok (.lstore 8, 2) := by decide +kernel
theorem dX2_compareTwo_31 : decode cX2_compareTwo 31 = .ok (.aload_n 0, 1) := by decide +kernel
theorem dX2_compareTwo_32 : decode cX2_compareTwo 32 = .ok (.getfield 9, 3) := by decide +kernel
theorem dX2_compareTwo_35 : decode cX2_compareTwo 35 = .ok (.iload_n 1, 1) := by decide +kernel
theorem dX2_compareTwo_36 : decode cX2_compareTwo 36 = .ok (.laload, 1) := by decide +kernel
theorem dX2_compareTwo_37 : decode cX2_compareTwo 37 = .ok (.aload_n 0, 1) := by decide +kernel
theorem dX2_compareTwo_38 : decode cX2_compareTwo 38 = .ok (.getfield 9, 3) := by decide +kernel
theorem dX2_compareTwo_41 : decode cX2_compareTwo 41 = .ok (.iload_n 2, 1) := by decide +kernel
theorem dX2_compareTwo_42 : decode cX2_compareTwo 42 = .ok (.laload, 1) := by decide +kernel
theorem dX2_compareTwo_43 : decode cX2_compareTwo 43 = .ok (.lxor, 1) := by decide +kernel
theorem dX2_compareTwo_44 : decode cX2_compareTwo 44 = .ok (.lstore 10, 2) := by decide +kernel
theorem dX2_compareTwo_46 : decode cX2_compareTwo 46 = .ok (.lload 10, 2) := by decide +kernel
theorem dX2_compareTwo_48 : decode cX2_compareTwo 48 = .ok (.lload 6, 2) := by decide +kernel
theorem dX2_compareTwo_50 : decode cX2_compareTwo 50 = .ok (.ldc2_w 97, 3) := by decide +kernel
theorem dX2_compareTwo_53 : decode cX2_compareTwo 53 = .ok (.lxor, 1) := by decide +kernel
theorem dX2_compareTwo_54 : decode cX2_compareTwo 54 = .ok (.land, 1) := by decide +kernel
theorem dX2_compareTwo_55 : decode cX2_compareTwo 55 = .ok (.lconst 0, 1) := by decide +kernel
theorem dX2_compareTwo_56 : decode cX2_compareTwo 56 = .ok (.lcmp, 1) := by decide +kernel
theorem dX2_compareTwo_57 : decode cX2_compareTwo 57 = .ok (.ifCond .ne 67, 3) := by decide +kernel
theorem dX2_compareTwo_60 : decode cX2_compareTwo 60 = .ok (.aload_n 3, 1) := by decide +kernel
theorem dX2_compareTwo_61 : decode cX2_compareTwo 61 = .ok (.aload_n 0, 1) := by decide +kernel
theorem dX2_compareTwo_62 : decode cX2_compareTwo 62 = .ok (.iload_n 1, 1) := by decide +kernel
theorem dX2_compareTwo_63 : decode cX2_compareTwo 63 = .ok (.iload 5, 2) := by decide +kernel
theorem dX2_compareTwo_65 : decode cX2_compareTwo 65 = .ok (.invokevirtual 99, 3) := by decide +kernel
theorem dX2_compareTwo_68 : decode cX2_compareTwo 68 = .ok (.aload_n 0, 1) := by decide +kernel
theorem dX2_compareTwo_69 : decode cX2_compareTwo 69 = .ok (.iload_n 2, 1) := by decide +kernel
theorem dX2_compareTwo_70 : decode cX2_compareTwo 70 = .ok (.iload 5, 2) := by decide +kernel
theorem dX2_compareTwo_72 : decode cX2_compareTwo 72 = .ok (.invokevirtual 99, 3) := by decide +kernel
theorem dX2_compareTwo_75 : decode cX2_compareTwo 75 = .ok (.invokevirtual 100, 3) := by decide +kernel
theorem dX2_compareTwo_78 : decode cX2_compareTwo 78 = .ok (.iload 5, 2) := by decide +kernel
theorem dX2_compareTwo_80 : decode cX2_compareTwo 80 = .ok (.iconst 2, 1) := by decide +kernel
theorem dX2_compareTwo_81 : decode cX2_compareTwo 81 = .ok (.if_icmp .lt 43, 3) := by decide +kernel
theorem dX2_compareTwo_84 : decode cX2_compareTwo 84 = .ok (.iconst 1, 1) := by decide +kernel
theorem dX2_compareTwo_85 : decode cX2_compareTwo 85 = .ok (.aload_n 0, 1) := by decide +kernel
theorem dX2_compareTwo_86 : decode cX2_compareTwo 86 = .ok (.iload_n 1, 1) := by decide +kernel
theorem dX2_compareTwo_87 : decode cX2_compareTwo 87 = .ok (.iload 5, 2) := by decide +kernel
theorem dX2_compareTwo_89 : decode cX2_compareTwo 89 = .ok (.invokevirtual 99, 3) := by decide +kernel
theorem dX2_compareTwo_92 : decode cX2_compareTwo 92 = .ok (.ishl, 1) := by decide +kernel
theorem dX2_compareTwo_93 : decode cX2_compareTwo 93 = .ok (.iconst 1, 1) := by decide +kernel
theorem dX2_compareTwo_94 : decode cX2_compareTwo 94 = .ok (.aload_n 0, 1) := by decide +kernel
theorem dX2_compareTwo_95 : decode cX2_compareTwo 95 = .ok (.iload_n 2, 1) := by decide +kernel
theorem dX2_compareTwo_96 : decode cX2_compareTwo 96 = .ok (.iload 5, 2) := by decide +kernel
theorem dX2_compareTwo_98 : decode cX2_compareTwo 98 = .ok (.invokevirtual 99, 3) := by decide +kernel
theorem dX2_compareTwo_101 : decode cX2_compareTwo 101 = .ok (.ishl, 1) := by decide +kernel
theorem dX2_compareTwo_102 : decode cX2_compareTwo 102 = .ok (.ior, 1) := by decide +kernel
theorem dX2_compareTwo_103 : decode cX2_compareTwo 103 = .ok (.istore 12, 2) := by decide +kernel
theorem dX2_compareTwo_105 : decode cX2_compareTwo 105 = .ok (.aload_n 0, 1) := by decide +kernel
theorem dX2_compareTwo_106 : decode cX2_compareTwo 106 = .ok (.aload_n 0, 1) := by decide +kernel
theorem dX2_compareTwo_107 : decode cX2_compareTwo 107 = .ok (.getfield 9, 3) := by decide +kernel
theorem dX2_compareTwo_110 : decode cX2_compareTwo 110 = .ok (.iload_n 1, 1) := by decide +kernel
theorem dX2_compareTwo_111 : decode cX2_compareTwo 111 = .ok (.laload, 1) := by decide +kernel
theorem dX2_compareTwo_112 : decode cX2_compareTwo 112 = .ok (.lload 6, 2) := by decide +kernel
theorem dX2_compareTwo_114 : decode cX2_compareTwo 114 = .ok (.ldc2_w 97, 3) := by decide +kernel
theorem dX2_compareTwo_117 : decode cX2_compareTwo 117 = .ok (.lxor, 1) := by decide +kernel
theorem dX2_compareTwo_118 : decode cX2_compareTwo 118 = .ok (.land, 1) := by decide +kernel
theorem dX2_compareTwo_119 : decode cX2_compareTwo 119 = .ok (.iload 12, 2) := by decide +kernel
theorem dX2_compareTwo_121 : decode cX2_compareTwo 121 = .ok (.invokevirtual 106, 3) := by decide +kernel
theorem dX2_compareTwo_124 : decode cX2_compareTwo 124 = .ok (.lload 10, 2) := by decide +kernel
theorem dX2_compareTwo_126 : decode cX2_compareTwo 126 = .ok (.lload 8, 2) := by decide +kernel
theorem dX2_compareTwo_128 : decode cX2_compareTwo 128 = .ok (.ldc2_w 97, 3) := by decide +kernel
theorem dX2_compareTwo_131 : decode cX2_compareTwo 131 = .ok (.lxor, 1) := by decide +kernel
theorem dX2_compareTwo_132 : decode cX2_compareTwo 132 = .ok (.land, 1) := by decide +kernel
theorem dX2_compareTwo_133 : decode cX2_compareTwo 133 = .ok (.lconst 0, 1) := by decide +kernel
theorem dX2_compareTwo_134 : decode cX2_compareTwo 134 = .ok (.lcmp, 1) := by decide +kernel
theorem dX2_compareTwo_135 : decode cX2_compareTwo 135 = .ok (.ifCond .ne 20, 3) := by decide +kernel
theorem dX2_compareTwo_138 : decode cX2_compareTwo 138 = .ok (.aload 4, 2) := by decide +kernel
theorem dX2_compareTwo_140 : decode cX2_compareTwo 140 = .ok (.aload_n 0, 1) := by decide +kernel
theorem dX2_compareTwo_141 : decode cX2_compareTwo 141 = .ok (.iload_n 1, 1) := by decide +kernel
theorem dX2_compareTwo_142 : decode cX2_compareTwo 142 = .ok (.iconst 0, 1) := by decide +kernel
theorem dX2_compareTwo_143 : decode cX2_compareTwo 143 = .ok (.invokevirtual 99, 3) := by decide +kernel
theorem dX2_compareTwo_146 : decode cX2_compareTwo 146 = .ok (.aload_n 0, 1) := by decide +kernel
theorem dX2_compareTwo_147 : decode cX2_compareTwo 147 = .ok (.iload_n 2, 1) := by decide +kernel
theorem dX2_compareTwo_148 : decode cX2_compareTwo 148 = .ok (.iconst 0, 1) := by decide +kernel
theorem dX2_compareTwo_149 : decode cX2_compareTwo 149 = .ok (.invokevirtual 99, 3) := by decide +kernel
theorem dX2_compareTwo_152 : decode cX2_compareTwo 152 = .ok (.invokevirtual 100, 3) := by decide +kernel
theorem dX2_compareTwo_155 : decode cX2_compareTwo 155 = .ok (.return_, 1) := by decide +kernel
noncomputable def f_X2_compareTwo_124 (M : ZMem) (x1 : Int32) (x2 : Int32) (x8 : Int64) (x10 : Int64) : Option ZMem := if (lg_cmp (x10 &&& (x8 ^^^ (-1 : Int64))) (0 : Int64)) = (zI 0) then zbind (f_X2_signAt M x1 (zI 0)) (fun r_143 => zbind (f_X2_signAt M x2 (zI 0)) (fun r_149 => zbind (f_X5_linkByWords 45 M r_143 r_149) (fun M_152 => some M_152))) else some M
set_option maxRecDepth 100000 in
set_option maxHeartbeats 4000000 in
theorem w_X2_compareTwo_124 {E : ZEv} {G : ZG} {K : ZMem → Prop} (h : zRu lyC E G (zRv K) cX2_compareTwo RX2 13 none 3) (M : ZMem) (x1 : Int32) (x2 : Int32) (x8 : Int64) (x10 : Int64) (hk : zOk (f_X2_compareTwo_124 M x1 x2 x8 x10) K) : G M 124 [(0, zrf E 34), (1, .int x1), (2, .int x2), (4, zrf E 45), (8, .long x8), (10, .long x10)] [] := by
  unfold f_X2_compareTwo_124 at hk
  refine zr_lload h dX2_compareTwo_124 5 rfl ?_
  refine zr_lload h dX2_compareTwo_126 4 rfl ?_
  refine zr_ldc2 (v := -1) h dX2_compareTwo_128 (zm_34 _ (List.mem_of_getElem? (i := 7) rfl)) ?_
  refine zr_lxor h dX2_compareTwo_131 ?_
  refine zr_land h dX2_compareTwo_132 ?_
  refine zr_lconst (v := 0) h dX2_compareTwo_133 (by decide) ?_
  refine zr_lcmp h dX2_compareTwo_134 ?_
  refine zr_if_ne (tgt := 155) h dX2_compareTwo_135 (by decide) (fun c => ?_) (fun c => ?_)
  · have hk := zOk_t c hk
    refine zr_aload h dX2_compareTwo_138 3 rfl ?_
    refine zr_aload_n h dX2_compareTwo_140 0 rfl rfl ?_
    refine zr_iload_n h dX2_compareTwo_141 1 rfl rfl ?_
    refine zr_iconst (v := (zI 0)) h dX2_compareTwo_142 rfl ?_
    refine zr_callVp h lC_34 zcw_X2_99 (by decide) (c_X2_signAt E M x1 (zI 0) _ (zOk_bind hk)) rfl rfl (Nat.le_of_ble_eq_true rfl) dX2_compareTwo_143 (fun r_143 hk => ?_)
    refine zr_aload_n h dX2_compareTwo_146 0 rfl rfl ?_
    refine zr_iload_n h dX2_compareTwo_147 2 rfl rfl ?_
    refine zr_iconst (v := (zI 0)) h dX2_compareTwo_148 rfl ?_
    refine zr_callVp h lC_34 zcw_X2_99 (by decide) (c_X2_signAt E M x2 (zI 0) _ (zOk_bind hk)) rfl rfl (Nat.le_of_ble_eq_true rfl) dX2_compareTwo_149 (fun r_149 hk => ?_)
    refine zr_callVv h lC_45 zcw_X2_100 (by decide) (c_X5_linkByWords E 45 lC_45 lC_46 lC_47 lC_48 M r_143 r_149 _ (zOk_bind hk)) rfl rfl (Nat.le_of_ble_eq_true rfl) dX2_compareTwo_152 (fun M_152 hk => ?_)
    have hk := zOk_some hk
    exact zr_vret h dX2_compareTwo_155 ⟨rfl, hk⟩
  · have hk := zOk_f c hk
    have hk := zOk_some hk
    exact zr_vret h dX2_compareTwo_155 ⟨rfl, hk⟩
noncomputable def f_X2_compareTwo (M : ZMem) (x1 : Int32) (x2 : Int32) : Option ZMem := zchk (zin x1 120) (zbnd ((M.1 37 (zix x1)) - (zI 1)) (fun x5_8 => zbind (f_X2_shiftOf M x5_8) (fun r_15 => zbnd ((31 : Int64) <<< ((r_15 : Int32).toInt64 &&& 63)) (fun x6_19 => zbind (f_X2_shiftOf M (zI 0)) (fun r_25 => zbnd ((31 : Int64) <<< ((r_25 : Int32).toInt64 &&& 63)) (fun x8_29 => zchk (zin x1 120) (zchk (zin x2 120) (zbnd ((M.2 35 (zix x1)) ^^^ (M.2 35 (zix x2))) (fun x10_44 => if (lg_cmp (x10_44 &&& (x6_19 ^^^ (-1 : Int64))) (0 : Int64)) = (zI 0) then zbind (f_X2_signAt M x1 x5_8) (fun r_65 => zbind (f_X2_signAt M x2 x5_8) (fun r_72 => zbind (f_X5_linkByWords 41 M r_65 r_72) (fun M_75 => if x5_8 < (zI 2) then f_X2_compareTwo_124 M_75 x1 x2 x8_29 x10_44 else zbind (f_X2_signAt M_75 x1 x5_8) (fun r_89 => zbind (f_X2_signAt M_75 x2 x5_8) (fun r_98 => zbnd (((zI 1) <<< (r_89 &&& 31)) ||| ((zI 1) <<< (r_98 &&& 31))) (fun x12_103 => zchk (zin x1 120) (zbind (f_X2_addEndings M_75 ((M_75.2 35 (zix x1)) &&& (x6_19 ^^^ (-1 : Int64))) x12_103) (fun M_121 => f_X2_compareTwo_124 M_121 x1 x2 x8_29 x10_44)))))))) else f_X2_compareTwo_124 M x1 x2 x8_29 x10_44)))))))))
set_option maxRecDepth 100000 in
set_option maxHeartbeats 4000000 in
theorem c_X2_compareTwo (E : ZEv) (M : ZMem) (x1 : Int32) (x2 : Int32) (K : ZMem → Prop) (hk : zOk (f_X2_compareTwo M x1 x2) K) : zCon lyC E yX2_compareTwo cX2_compareTwo 13 none 3 [zrf E 34, .int x1, .int x2, zrf E 41, zrf E 45] M (zRv K) := by
  refine zcon_of (L0 := [(0, zrf E 34), (1, .int x1), (2, .int x2), (3, zrf E 41), (4, zrf E 45)]) (by decide) rfl (Nat.le_of_ble_eq_true rfl) (fun G h => ?_)
  have h : zRu lyC E G (zRv K) cX2_compareTwo RX2 13 none 3 := h
  unfold f_X2_compareTwo at hk
  refine zr_aload_n h dX2_compareTwo_0 0 rfl rfl ?_
  refine zr_getR h zfo_X2_19 lC_34 rfl dX2_compareTwo_1 ?_
  refine zr_iload_n h dX2_compareTwo_4 1 rfl rfl ?_
  have hb := zOk_chk hk
  have hk := hb.2
  refine zr_iald h lC_37 hb.1 dX2_compareTwo_5 ?_
  refine zr_iconst (v := (zI 1)) h dX2_compareTwo_6 rfl ?_
  refine zr_isub h dX2_compareTwo_7 ?_
  refine zr_topi (fun x5_8 ex => ?_)
  have hk := zOk_bnd ex hk
  refine zr_istore (L' := [(0, zrf E 34), (1, .int x1), (2, .int x2), (3, zrf E 41), (4, zrf E 45), (5, .int x5_8)]) h [1, 2, 3, 4, 5, 0] dX2_compareTwo_8 (by decide) rfl ?_
  refine zr_ldc2 (v := 31) h dX2_compareTwo_10 (zm_33 _ (List.mem_of_getElem? (i := 4) rfl)) ?_
  refine zr_iload h dX2_compareTwo_13 5 rfl ?_
  refine zr_callSp h zcw_X2_74 (by decide) (c_X2_shiftOf E M x5_8 _ (zOk_bind hk)) rfl rfl (Nat.le_of_ble_eq_true rfl) dX2_compareTwo_15 (fun r_15 hk => ?_)
  refine zr_lshl h dX2_compareTwo_18 ?_
  refine zr_topl (fun x6_19 ex => ?_)
  have hk := zOk_bnd ex hk
  refine zr_lstore (L' := [(0, zrf E 34), (1, .int x1), (2, .int x2), (3, zrf E 41), (4, zrf E 45), (5, .int x5_8), (6, .long x6_19)]) h [1, 2, 3, 4, 5, 6, 0] dX2_compareTwo_19 (by decide) rfl ?_
  refine zr_ldc2 (v := 31) h dX2_compareTwo_21 (zm_33 _ (List.mem_of_getElem? (i := 4) rfl)) ?_
  refine zr_iconst (v := (zI 0)) h dX2_compareTwo_24 rfl ?_
  refine zr_callSp h zcw_X2_74 (by decide) (c_X2_shiftOf E M (zI 0) _ (zOk_bind hk)) rfl rfl (Nat.le_of_ble_eq_true rfl) dX2_compareTwo_25 (fun r_25 hk => ?_)
  refine zr_lshl h dX2_compareTwo_28 ?_
  refine zr_topl (fun x8_29 ex => ?_)
  have hk := zOk_bnd ex hk
  refine zr_lstore (L' := [(0, zrf E 34), (1, .int x1), (2, .int x2), (3, zrf E 41), (4, zrf E 45), (5, .int x5_8), (6, .long x6_19), (8, .long x8_29)]) h [1, 2, 3, 4, 5, 6, 7, 0] dX2_compareTwo_29 (by decide) rfl ?_
  refine zr_aload_n h dX2_compareTwo_31 0 rfl rfl ?_
  refine zr_getR h zfo_X2_9 lC_34 rfl dX2_compareTwo_32 ?_
  refine zr_iload_n h dX2_compareTwo_35 1 rfl rfl ?_
  have hb := zOk_chk hk
  have hk := hb.2
  refine zr_lald h lC_35 hb.1 dX2_compareTwo_36 ?_
  refine zr_aload_n h dX2_compareTwo_37 0 rfl rfl ?_
  refine zr_getR h zfo_X2_9 lC_34 rfl dX2_compareTwo_38 ?_
  refine zr_iload_n h dX2_compareTwo_41 2 rfl rfl ?_
  have hb := zOk_chk hk
  have hk := hb.2
  refine zr_lald h lC_35 hb.1 dX2_compareTwo_42 ?_
  refine zr_lxor h dX2_compareTwo_43 ?_
  refine zr_topl (fun x10_44 ex => ?_)
  have hk := zOk_bnd ex hk
  refine zr_lstore (L' := [(0, zrf E 34), (1, .int x1), (2, .int x2), (3, zrf E 41), (4, zrf E 45), (5, .int x5_8), (6, .long x6_19), (8, .long x8_29), (10, .long x10_44)]) h [1, 2, 3, 4, 5, 6, 7, 8, 0] dX2_compareTwo_44 (by decide) rfl ?_
  refine zr_lload h dX2_compareTwo_46 8 rfl ?_
  refine zr_lload h dX2_compareTwo_48 6 rfl ?_
  refine zr_ldc2 (v := -1) h dX2_compareTwo_50 (zm_34 _ (List.mem_of_getElem? (i := 7) rfl)) ?_
  refine zr_lxor h dX2_compareTwo_53 ?_
  refine zr_land h dX2_compareTwo_54 ?_
  refine zr_lconst (v := 0) h dX2_compareTwo_55 (by decide) ?_
  refine zr_lcmp h dX2_compareTwo_56 ?_
  refine zr_if_ne (tgt := 124) h dX2_compareTwo_57 (by decide) (fun c => ?_) (fun c => ?_)
  · have hk := zOk_t c hk
    refine zr_aload_n h dX2_compareTwo_60 3 rfl rfl ?_
    refine zr_aload_n h dX2_compareTwo_61 0 rfl rfl ?_
    refine zr_iload_n h dX2_compareTwo_62 1 rfl rfl ?_
    refine zr_iload h dX2_compareTwo_63 5 rfl ?_
    refine zr_callVp h lC_34 zcw_X2_99 (by decide) (c_X2_signAt E M x1 x5_8 _ (zOk_bind hk)) rfl rfl (Nat.le_of_ble_eq_true rfl) dX2_compareTwo_65 (fun r_65 hk => ?_)
    refine zr_aload_n h dX2_compareTwo_68 0 rfl rfl ?_
    refine zr_iload_n h dX2_compareTwo_69 2 rfl rfl ?_
    refine zr_iload h dX2_compareTwo_70 5 rfl ?_
    refine zr_callVp h lC_34 zcw_X2_99 (by decide) (c_X2_signAt E M x2 x5_8 _ (zOk_bind hk)) rfl rfl (Nat.le_of_ble_eq_true rfl) dX2_compareTwo_72 (fun r_72 hk => ?_)
    refine zr_callVv h lC_41 zcw_X2_100 (by decide) (c_X5_linkByWords E 41 lC_41 lC_42 lC_43 lC_44 M r_65 r_72 _ (zOk_bind hk)) rfl rfl (Nat.le_of_ble_eq_true rfl) dX2_compareTwo_75 (fun M_75 hk => ?_)
    refine zr_iload h dX2_compareTwo_78 5 rfl ?_
    refine zr_iconst (v := (zI 2)) h dX2_compareTwo_80 rfl ?_
    refine zr_icmp_lt (tgt := 124) h dX2_compareTwo_81 (by decide) (fun c => ?_) (fun c => ?_)
    · have hk := zOk_t c hk
      exact zr_weak h [0, 1, 2, 4, 7, 8] rfl (w_X2_compareTwo_124 h M_75 x1 x2 x8_29 x10_44 hk)
    · have hk := zOk_f c hk
      refine zr_iconst (v := (zI 1)) h dX2_compareTwo_84 rfl ?_
      refine zr_aload_n h dX2_compareTwo_85 0 rfl rfl ?_
      refine zr_iload_n h dX2_compareTwo_86 1 rfl rfl ?_
      refine zr_iload h dX2_compareTwo_87 5 rfl ?_
      refine zr_callVp h lC_34 zcw_X2_99 (by decide) (c_X2_signAt E M_75 x1 x5_8 _ (zOk_bind hk)) rfl rfl (Nat.le_of_ble_eq_true rfl) dX2_compareTwo_89 (fun r_89 hk => ?_)
      refine zr_ishl h dX2_compareTwo_92 ?_
      refine zr_iconst (v := (zI 1)) h dX2_compareTwo_93 rfl ?_
      refine zr_aload_n h dX2_compareTwo_94 0 rfl rfl ?_
      refine zr_iload_n h dX2_compareTwo_95 2 rfl rfl ?_
      refine zr_iload h dX2_compareTwo_96 5 rfl ?_
      refine zr_callVp h lC_34 zcw_X2_99 (by decide) (c_X2_signAt E M_75 x2 x5_8 _ (zOk_bind hk)) rfl rfl (Nat.le_of_ble_eq_true rfl) dX2_compareTwo_98 (fun r_98 hk => ?_)
      refine zr_ishl h dX2_compareTwo_101 ?_
      refine zr_ior h dX2_compareTwo_102 ?_
      refine zr_topi (fun x12_103 ex => ?_)
      have hk := zOk_bnd ex hk
      refine zr_istore (L' := [(0, zrf E 34), (1, .int x1), (2, .int x2), (4, zrf E 45), (6, .long x6_19), (8, .long x8_29), (10, .long x10_44), (12, .int x12_103)]) h [1, 2, 3, 5, 7, 8, 9, 0] dX2_compareTwo_103 (by decide) rfl ?_
      refine zr_aload_n h dX2_compareTwo_105 0 rfl rfl ?_
      refine zr_aload_n h dX2_compareTwo_106 0 rfl rfl ?_
      refine zr_getR h zfo_X2_9 lC_34 rfl dX2_compareTwo_107 ?_
      refine zr_iload_n h dX2_compareTwo_110 1 rfl rfl ?_
      have hb := zOk_chk hk
      have hk := hb.2
      refine zr_lald h lC_35 hb.1 dX2_compareTwo_111 ?_
      refine zr_lload h dX2_compareTwo_112 4 rfl ?_
      refine zr_ldc2 (v := -1) h dX2_compareTwo_114 (zm_34 _ (List.mem_of_getElem? (i := 7) rfl)) ?_
      refine zr_lxor h dX2_compareTwo_117 ?_
      refine zr_land h dX2_compareTwo_118 ?_
      refine zr_iload h dX2_compareTwo_119 7 rfl ?_
      refine zr_callVv h lC_34 zcw_X2_106 (by decide) (c_X2_addEndings E M_75 ((M_75.2 35 (zix x1)) &&& (x6_19 ^^^ (-1 : Int64))) x12_103 _ (zOk_bind hk)) rfl rfl (Nat.le_of_ble_eq_true rfl) dX2_compareTwo_121 (fun M_121 hk => ?_)
      exact zr_weak h [0, 1, 2, 3, 5, 6] rfl (w_X2_compareTwo_124 h M_121 x1 x2 x8_29 x10_44 hk)
  · have hk := zOk_f c hk
    exact zr_weak h [0, 1, 2, 4, 7, 8] rfl (w_X2_compareTwo_124 h M x1 x2 x8_29 x10_44 hk)
theorem dX2_compareWords_0 : decode cX2_compareWords 0 = .ok (.aload_n 0, 1) := by decide +kernel
theorem dX2_compareWords_1 : decode cX2_compareWords 1 = .ok (.iconst 0, 1) := by decide +kernel
theorem dX2_compareWords_2 : decode cX2_compareWords 2 = .ok (.putfield 90, 3) := by decide +kernel
theorem dX2_compareWords_5 : decode cX2_compareWords 5 = .ok (.iconst 0, 1) := by decide +kernel
theorem dX2_compareWords_6 : decode cX2_compareWords 6 = .ok (.istore_n 3, 1) := by decide +kernel
theorem dX2_compareWords_7 : decode cX2_compareWords 7 = .ok (.iload_n 3, 1) := by decide +kernel
theorem dX2_compareWords_8 : decode cX2_compareWords 8 = .ok (.aload_n 0, 1) := by decide +kernel
theorem dX2_compareWords_9 : decode cX2_compareWords 9 = .ok (.getfield 37, 3) := by decide +kernel
theorem dX2_compareWords_12 : decode cX2_compareWords 12 = .ok (.if_icmp .ge 64, 3) := by decide +kernel
theorem dX2_compareWords_15 : decode cX2_compareWords 15 = .ok (.iload_n 3, 1) := by decide +kernel
theorem dX2_compareWords_16 : decode cX2_compareWords 16 = .ok (.iconst 1, 1) := by decide +kernel
theorem dX2_compareWords_17 : decode cX2_compareWords 17 = .ok (.iadd, 1) := by decide +kernel
theorem dX2_compareWords_18 : decode cX2_compareWords 18 = .ok (.istore 4, 2) := by decide +kernel
theorem dX2_compareWords_20 : decode cX2_compareWords 20 = .ok (.iload 4, 2) := by decide +kernel
theorem dX2_compareWords_22 : decode cX2_compareWords 22 = .ok (.aload_n 0, 1) := by decide +kernel
theorem dX2_compareWords_23 : decode cX2_compareWords 23 = .ok (.getfield 37, 3) := by decide +kernel
theorem dX2_compareWords_26 : decode cX2_compareWords 26 = .ok (.if_icmp .ge 44, 3) := by decide +kernel
theorem dX2_compareWords_29 : decode cX2_compareWords 29 = .ok (.aload_n 0, 1) := by decide +kernel
theorem dX2_compareWords_30 : decode cX2_compareWords 30 = .ok (.getfield 19, 3) := by decide +kernel
theorem dX2_compareWords_33 : decode cX2_compareWords 33 = .ok (.iload_n 3, 1) := by decide +kernel
theorem dX2_compareWords_34 : decode cX2_compareWords 34 = .ok (.iaload, 1) := by decide +kernel
theorem dX2_compareWords_35 : decode cX2_compareWords 35 = .ok (.iconst 2, 1) := by decide +kernel
theorem dX2_compareWords_36 : decode cX2_compareWords 36 = .ok (.if_icmp .lt 28, 3) := by decide +kernel
theorem dX2_compareWords_39 : decode cX2_compareWords 39 = .ok (.aload_n 0, 1) := by decide +kernel
theorem dX2_compareWords_40 : decode cX2_compareWords 40 = .ok (.getfield 19, 3) := by decide +kernel
theorem dX2_compareWords_43 : decode cX2_compareWords 43 = .ok (.iload_n 3, 1) := by decide +kernel
theorem dX2_compareWords_44 : decode cX2_compareWords 44 = .ok (.iaload, 1) := by decide +kernel
theorem dX2_compareWords_45 : decode cX2_compareWords 45 = .ok (.aload_n 0, 1) := by decide +kernel
theorem dX2_compareWords_46 : decode cX2_compareWords 46 = .ok (.getfield 19, 3) := by decide +kernel
theorem dX2_compareWords_49 : decode cX2_compareWords 49 = .ok (.iload 4, 2) := by decide +kernel
theorem dX2_compareWords_51 : decode cX2_compareWords 51 = .ok (.iaload, 1) := by decide +kernel
theorem dX2_compareWords_52 : decode cX2_compareWords 52 = .ok (.if_icmp .ne 12, 3) := by decide +kernel
theorem dX2_compareWords_55 : decode cX2_compareWords 55 = .ok (.aload_n 0, 1) := by decide +kernel
theorem dX2_compareWords_56 : decode cX2_compareWords 56 = .ok (.iload_n 3, 1) := by decide +kernel
theorem dX2_compareWords_57 : decode cX2_compareWords 57 = .ok (.iload 4, 2) := by decide +kernel
theorem dX2_compareWords_59 : decode cX2_compareWords 59 = .ok (.aload_n 1, 1) := by decide +kernel
theorem dX2_compareWords_60 : decode cX2_compareWords 60 = .ok (.aload_n 2, 1) := by decide +kernel
theorem dX2_compareWords_61 : decode cX2_compareWords 61 = .ok (.invokevirtual 93, 3) := by decide +kernel
theorem dX2_compareWords_64 : decode cX2_compareWords 64 = .ok (.iinc 4 1, 3) := by decide +kernel
theorem dX2_compareWords_67 : decode cX2_compareWords 67 = .ok (.goto (-47), 3) := by decide +kernel
theorem dX2_compareWords_70 : decode cX2_compareWords 70 = .ok (.iinc 3 1, 3) := by decide +kernel
theorem dX2_compareWords_73 : decode cX2_compareWords 73 = .ok (.goto (-66), 3) := by decide +kernel
theorem dX2_compareWords_76 : decode cX2_compareWords 76 = .ok (.return_, 1) := by decide +kernel
noncomputable def f_X2_compareWords_L20 (x3 : Int32) (s : (ZMem × Int32)) : Option ((ZMem × Int32) ⊕ (ZMem)) := if (s.1.1 34 6) ≤ s.2 then some (.inr s.1) else zchk (zin x3 120) (if (s.1.1 37 (zix x3)) < (zI 2) then zbnd (s.2 + (zI 1)) (fun x4_64 => some (.inl (s.1, x4_64))) else zchk (zin x3 120) (zchk (zin s.2 120) (if (s.1.1 37 (zix x3)) = (s.1.1 37 (zix s.2)) then zbind (f_X2_compareTwo s.1 x3 s.2) (fun M_61 => zbnd (s.2 + (zI 1)) (fun x4_64 => some (.inl (M_61, x4_64)))) else zbnd (s.2 + (zI 1)) (fun x4_64 => some (.inl (s.1, x4_64))))))
set_option maxRecDepth 100000 in
set_option maxHeartbeats 4000000 in
theorem w_X2_compareWords_L20 {E : ZEv} {G : ZG} {K : ZMem → Prop} (h : zRu lyC E G (zRv K) cX2_compareWords RX2 5 none 4) (x3 : Int32) (s : (ZMem × Int32)) (hk : zOk (zloop (f_X2_compareWords_L20 x3) s) (fun e => G e 70 [(0, zrf E 34), (1, zrf E 41), (2, zrf E 45), (3, .int x3)] [])) : G s.1 20 [(0, zrf E 34), (1, zrf E 41), (2, zrf E 45), (3, .int x3), (4, .int s.2)] [] := by
  refine zloop_walk (P := fun s => G s.1 20 [(0, zrf E 34), (1, zrf E 41), (2, zrf E 45), (3, .int x3), (4, .int s.2)] []) hk (fun s hk => ?_)
  unfold f_X2_compareWords_L20 at hk
  refine zr_iload h dX2_compareWords_20 4 rfl ?_
  refine zr_aload_n h dX2_compareWords_22 0 rfl rfl ?_
  refine zr_getI h zfo_X2_37 lC_34 rfl dX2_compareWords_23 ?_
  refine zr_icmp_ge (tgt := 70) h dX2_compareWords_26 (by decide) (fun c => ?_) (fun c => ?_)
  · have hk := zOk_t c hk
    have hk := zOk_some hk
    exact zr_weak h [0, 1, 2, 3] rfl hk
  · have hk := zOk_f c hk
    refine zr_aload_n h dX2_compareWords_29 0 rfl rfl ?_
    refine zr_getR h zfo_X2_19 lC_34 rfl dX2_compareWords_30 ?_
    refine zr_iload_n h dX2_compareWords_33 3 rfl rfl ?_
    have hb := zOk_chk hk
    have hk := hb.2
    refine zr_iald h lC_37 hb.1 dX2_compareWords_34 ?_
    refine zr_iconst (v := (zI 2)) h dX2_compareWords_35 rfl ?_
    refine zr_icmp_lt (tgt := 64) h dX2_compareWords_36 (by decide) (fun c => ?_) (fun c => ?_)
    · have hk := zOk_t c hk
      obtain ⟨x4_64, ex⟩ : ∃ y : Int32, y = s.2 + (zI 1) := ⟨_, rfl⟩
      have hk := zOk_bnd ex hk
      refine zr_iinc (v := x4_64) (L' := [(0, zrf E 34), (1, zrf E 41), (2, zrf E 45), (3, .int x3), (4, .int x4_64)]) h 4 [1, 2, 3, 4, 0] dX2_compareWords_64 rfl (by rw [ex]; rfl) (by decide) rfl ?_
      refine zr_goto (tgt := 20) h dX2_compareWords_67 (by decide) ?_
      have hk := zOk_some hk
      exact zr_weak h [0, 1, 2, 3, 4] rfl hk
    · have hk := zOk_f c hk
      refine zr_aload_n h dX2_compareWords_39 0 rfl rfl ?_
      refine zr_getR h zfo_X2_19 lC_34 rfl dX2_compareWords_40 ?_
      refine zr_iload_n h dX2_compareWords_43 3 rfl rfl ?_
      have hb := zOk_chk hk
      have hk := hb.2
      refine zr_iald h lC_37 hb.1 dX2_compareWords_44 ?_
      refine zr_aload_n h dX2_compareWords_45 0 rfl rfl ?_
      refine zr_getR h zfo_X2_19 lC_34 rfl dX2_compareWords_46 ?_
      refine zr_iload h dX2_compareWords_49 4 rfl ?_
      have hb := zOk_chk hk
      have hk := hb.2
      refine zr_iald h lC_37 hb.1 dX2_compareWords_51 ?_
      refine zr_icmp_ne (tgt := 64) h dX2_compareWords_52 (by decide) (fun c => ?_) (fun c => ?_)
      · have hk := zOk_t c hk
        refine zr_aload_n h dX2_compareWords_55 0 rfl rfl ?_
        refine zr_iload_n h dX2_compareWords_56 3 rfl rfl ?_
        refine zr_iload h dX2_compareWords_57 4 rfl ?_
        refine zr_aload_n h dX2_compareWords_59 1 rfl rfl ?_
        refine zr_aload_n h dX2_compareWords_60 2 rfl rfl ?_
        refine zr_callVv h lC_34 zcw_X2_93 (by decide) (c_X2_compareTwo E s.1 x3 s.2 _ (zOk_bind hk)) rfl rfl (Nat.le_of_ble_eq_true rfl) dX2_compareWords_61 (fun M_61 hk => ?_)
        obtain ⟨x4_64, ex⟩ : ∃ y : Int32, y = s.2 + (zI 1) := ⟨_, rfl⟩
        have hk := zOk_bnd ex hk
        refine zr_iinc (v := x4_64) (L' := [(0, zrf E 34), (1, zrf E 41), (2, zrf E 45), (3, .int x3), (4, .int x4_64)]) h 4 [1, 2, 3, 4, 0] dX2_compareWords_64 rfl (by rw [ex]; rfl) (by decide) rfl ?_
        refine zr_goto (tgt := 20) h dX2_compareWords_67 (by decide) ?_
        have hk := zOk_some hk
        exact zr_weak h [0, 1, 2, 3, 4] rfl hk
      · have hk := zOk_f c hk
        obtain ⟨x4_64, ex⟩ : ∃ y : Int32, y = s.2 + (zI 1) := ⟨_, rfl⟩
        have hk := zOk_bnd ex hk
        refine zr_iinc (v := x4_64) (L' := [(0, zrf E 34), (1, zrf E 41), (2, zrf E 45), (3, .int x3), (4, .int x4_64)]) h 4 [1, 2, 3, 4, 0] dX2_compareWords_64 rfl (by rw [ex]; rfl) (by decide) rfl ?_
        refine zr_goto (tgt := 20) h dX2_compareWords_67 (by decide) ?_
        have hk := zOk_some hk
        exact zr_weak h [0, 1, 2, 3, 4] rfl hk
noncomputable def f_X2_compareWords_L7 (s : (ZMem × Int32)) : Option ((ZMem × Int32) ⊕ (ZMem)) := if (s.1.1 34 6) ≤ s.2 then some (.inr s.1) else zbnd (s.2 + (zI 1)) (fun x4_18 => zbind (zloop (f_X2_compareWords_L20 s.2) (s.1, x4_18)) (fun e20 => zbnd (s.2 + (zI 1)) (fun x3_70 => some (.inl (e20, x3_70)))))
set_option maxRecDepth 100000 in
set_option maxHeartbeats 4000000 in
theorem w_X2_compareWords_L7 {E : ZEv} {G : ZG} {K : ZMem → Prop} (h : zRu lyC E G (zRv K) cX2_compareWords RX2 5 none 4) (s : (ZMem × Int32)) (hk : zOk (zloop (f_X2_compareWords_L7) s) (fun e => G e 76 [] [])) : G s.1 7 [(0, zrf E 34), (1, zrf E 41), (2, zrf E 45), (3, .int s.2)] [] := by
  refine zloop_walk (P := fun s => G s.1 7 [(0, zrf E 34), (1, zrf E 41), (2, zrf E 45), (3, .int s.2)] []) hk (fun s hk => ?_)
  unfold f_X2_compareWords_L7 at hk
  refine zr_iload_n h dX2_compareWords_7 3 rfl rfl ?_
  refine zr_aload_n h dX2_compareWords_8 0 rfl rfl ?_
  refine zr_getI h zfo_X2_37 lC_34 rfl dX2_compareWords_9 ?_
  refine zr_icmp_ge (tgt := 76) h dX2_compareWords_12 (by decide) (fun c => ?_) (fun c => ?_)
  · have hk := zOk_t c hk
    have hk := zOk_some hk
    exact zr_weak h [] rfl hk
  · have hk := zOk_f c hk
    refine zr_iload_n h dX2_compareWords_15 3 rfl rfl ?_
    refine zr_iconst (v := (zI 1)) h dX2_compareWords_16 rfl ?_
    refine zr_iadd h dX2_compareWords_17 ?_
    refine zr_topi (fun x4_18 ex => ?_)
    have hk := zOk_bnd ex hk
    refine zr_istore (L' := [(0, zrf E 34), (1, zrf E 41), (2, zrf E 45), (3, .int s.2), (4, .int x4_18)]) h [1, 2, 3, 4, 0] dX2_compareWords_18 (by decide) rfl ?_
    refine w_X2_compareWords_L20 h s.2 (s.1, x4_18) (zOk_mono (zOk_bind hk) (fun e20 hk => ?_))
    obtain ⟨x3_70, ex⟩ : ∃ y : Int32, y = s.2 + (zI 1) := ⟨_, rfl⟩
    have hk := zOk_bnd ex hk
    refine zr_iinc (v := x3_70) (L' := [(0, zrf E 34), (1, zrf E 41), (2, zrf E 45), (3, .int x3_70)]) h 3 [1, 2, 3, 0] dX2_compareWords_70 rfl (by rw [ex]; rfl) (by decide) rfl ?_
    refine zr_goto (tgt := 7) h dX2_compareWords_73 (by decide) ?_
    have hk := zOk_some hk
    exact zr_weak h [0, 1, 2, 3] rfl hk
noncomputable def f_X2_compareWords (M : ZMem) : Option ZMem := zbnd (zstI M 34 8 (zI 0)) (fun M_2 => zbind (zloop (f_X2_compareWords_L7) (M_2, (zI 0))) (fun e7 => some e7))
set_option maxRecDepth 100000 in
set_option maxHeartbeats 4000000 in
theorem c_X2_compareWords (E : ZEv) (M : ZMem) (K : ZMem → Prop) (hk : zOk (f_X2_compareWords M) K) : zCon lyC E yX2_compareWords cX2_compareWords 5 none 4 [zrf E 34, zrf E 41, zrf E 45] M (zRv K) := by
  refine zcon_of (L0 := [(0, zrf E 34), (1, zrf E 41), (2, zrf E 45)]) (by decide) rfl (Nat.le_of_ble_eq_true rfl) (fun G h => ?_)
  have h : zRu lyC E G (zRv K) cX2_compareWords RX2 5 none 4 := h
  unfold f_X2_compareWords at hk
  refine zr_aload_n h dX2_compareWords_0 0 rfl rfl ?_
  refine zr_iconst (v := (zI 0)) h dX2_compareWords_1 rfl ?_
  refine zr_putI h zfp_X2_90 lC_34 rfl dX2_compareWords_2 ?_
  refine zr_mem (fun M_2 eM => ?_)
  have hk := zOk_bnd eM hk
  refine zr_iconst (v := (zI 0)) h dX2_compareWords_5 rfl ?_
  refine zr_istore_n (L' := [(0, zrf E 34), (1, zrf E 41), (2, zrf E 45), (3, .int (zI 0))]) h [1, 2, 3, 0] dX2_compareWords_6 rfl (by decide) rfl ?_
  refine w_X2_compareWords_L7 h (M_2, (zI 0)) (zOk_mono (zOk_bind hk) (fun e7 hk => ?_))
  have hk := zOk_some hk
  exact zr_vret h dX2_compareWords_76 ⟨rfl, hk⟩
theorem dX2_held_0 : decode cX2_held 0 = .ok (.aload_n 0, 1) := by decide +kernel
theorem dX2_held_1 : decode cX2_held 1 = .ok (.getfield 37, 3) := by decide +kernel
theorem dX2_held_4 : decode cX2_held 4 = .ok (.ireturn, 1) := by decide +kernel
noncomputable def f_X2_held (M : ZMem) : Option Int32 := some (M.1 34 6)
set_option maxRecDepth 100000 in
set_option maxHeartbeats 4000000 in
theorem c_X2_held (E : ZEv) (M : ZMem) (K : Int32 → Prop) (hk : zOk (f_X2_held M) K) : zCon lyC E yX2_held cX2_held 1 (some .int) 0 [zrf E 34] M (zRp M K) := by
  refine zcon_of (L0 := [(0, zrf E 34)]) (by decide) rfl (Nat.le_of_ble_eq_true rfl) (fun G h => ?_)
  have h : zRu lyC E G (zRp M K) cX2_held RX2 1 (some .int) 0 := h
  unfold f_X2_held at hk
  refine zr_aload_n h dX2_held_0 0 rfl rfl ?_
  refine zr_getI h zfo_X2_37 lC_34 rfl dX2_held_1 ?_
  have hk := zOk_some hk
  exact zr_iret h dX2_held_4 ⟨rfl, _, rfl, hk⟩
theorem dX2_allCuts_0 : decode cX2_allCuts 0 = .ok (.aload_n 0, 1) := by decide +kernel
theorem dX2_allCuts_1 : decode cX2_allCuts 1 = .ok (.getfield 41, 3) := by decide +kernel
theorem dX2_allCuts_4 : decode cX2_allCuts 4 = .ok (.ireturn, 1) := by decide +kernel
noncomputable def f_X2_allCuts (M : ZMem) : Option Int32 := some (M.1 34 7)
set_option maxRecDepth 100000 in
set_option maxHeartbeats 4000000 in
theorem c_X2_allCuts (E : ZEv) (M : ZMem) (K : Int32 → Prop) (hk : zOk (f_X2_allCuts M) K) : zCon lyC E yX2_allCuts cX2_allCuts 1 (some .int) 0 [zrf E 34] M (zRp M K) := by
  refine zcon_of (L0 := [(0, zrf E 34)]) (by decide) rfl (Nat.le_of_ble_eq_true rfl) (fun G h => ?_)
  have h : zRu lyC E G (zRp M K) cX2_allCuts RX2 1 (some .int) 0 := h
  unfold f_X2_allCuts at hk
  refine zr_aload_n h dX2_allCuts_0 0 rfl rfl ?_
  refine zr_getI h zfo_X2_41 lC_34 rfl dX2_allCuts_1 ?_
  have hk := zOk_some hk
  exact zr_iret h dX2_allCuts_4 ⟨rfl, _, rfl, hk⟩
theorem dX2_stemsHeld_0 : decode cX2_stemsHeld 0 = .ok (.aload_n 0, 1) := by decide +kernel
theorem dX2_stemsHeld_1 : decode cX2_stemsHeld 1 = .ok (.getfield 90, 3) := by decide +kernel
theorem dX2_stemsHeld_4 : decode cX2_stemsHeld 4 = .ok (.ireturn, 1) := by decide +kernel
noncomputable def f_X2_stemsHeld (M : ZMem) : Option Int32 := some (M.1 34 8)
set_option maxRecDepth 100000 in
set_option maxHeartbeats 4000000 in
theorem c_X2_stemsHeld (E : ZEv) (M : ZMem) (K : Int32 → Prop) (hk : zOk (f_X2_stemsHeld M) K) : zCon lyC E yX2_stemsHeld cX2_stemsHeld 1 (some .int) 0 [zrf E 34] M (zRp M K) := by
  refine zcon_of (L0 := [(0, zrf E 34)]) (by decide) rfl (Nat.le_of_ble_eq_true rfl) (fun G h => ?_)
  have h : zRu lyC E G (zRp M K) cX2_stemsHeld RX2 1 (some .int) 0 := h
  unfold f_X2_stemsHeld at hk
  refine zr_aload_n h dX2_stemsHeld_0 0 rfl rfl ?_
  refine zr_getI h zfo_X2_90 lC_34 rfl dX2_stemsHeld_1 ?_
  have hk := zOk_some hk
  exact zr_iret h dX2_stemsHeld_4 ⟨rfl, _, rfl, hk⟩
theorem dX2_lengthOf_0 : decode cX2_lengthOf 0 = .ok (.aload_n 0, 1) := by decide +kernel
theorem dX2_lengthOf_1 : decode cX2_lengthOf 1 = .ok (.iload_n 1, 1) := by decide +kernel
theorem dX2_lengthOf_2 : decode cX2_lengthOf 2 = .ok (.invokevirtual 110, 3) := by decide +kernel
theorem dX2_lengthOf_5 : decode cX2_lengthOf 5 = .ok (.ifCond .eq 12, 3) := by decide +kernel
theorem dX2_lengthOf_8 : decode cX2_lengthOf 8 = .ok (.aload_n 0, 1) := by decide +kernel
theorem dX2_lengthOf_9 : decode cX2_lengthOf 9 = .ok (.getfield 19, 3) := by decide +kernel
theorem dX2_lengthOf_12 : decode cX2_lengthOf 12 = .ok (.iload_n 1, 1) := by decide +kernel
theorem dX2_lengthOf_13 : decode cX2_lengthOf 13 = .ok (.iaload, 1) := by decide +kernel
theorem dX2_lengthOf_14 : decode cX2_lengthOf 14 = .ok (.goto 4, 3) := by decide +kernel
theorem dX2_lengthOf_17 : decode cX2_lengthOf 17 = .ok (.iconst 0, 1) := by decide +kernel
theorem dX2_lengthOf_18 : decode cX2_lengthOf 18 = .ok (.ireturn, 1) := by decide +kernel
noncomputable def f_X2_lengthOf (M : ZMem) (x1 : Int32) : Option Int32 := zbind (f_X2_has M x1) (fun r_2 => if r_2 = (zI 0) then some (zI 0) else zchk (zin x1 120) (some (M.1 37 (zix x1))))
set_option maxRecDepth 100000 in
set_option maxHeartbeats 4000000 in
theorem c_X2_lengthOf (E : ZEv) (M : ZMem) (x1 : Int32) (K : Int32 → Prop) (hk : zOk (f_X2_lengthOf M x1) K) : zCon lyC E yX2_lengthOf cX2_lengthOf 2 (some .int) 1 [zrf E 34, .int x1] M (zRp M K) := by
  refine zcon_of (L0 := [(0, zrf E 34), (1, .int x1)]) (by decide) rfl (Nat.le_of_ble_eq_true rfl) (fun G h => ?_)
  have h : zRu lyC E G (zRp M K) cX2_lengthOf RX2 2 (some .int) 1 := h
  unfold f_X2_lengthOf at hk
  refine zr_aload_n h dX2_lengthOf_0 0 rfl rfl ?_
  refine zr_iload_n h dX2_lengthOf_1 1 rfl rfl ?_
  refine zr_callVp h lC_34 zcw_X2_110 (by decide) (c_X2_has E M x1 _ (zOk_bind hk)) rfl rfl (Nat.le_of_ble_eq_true rfl) dX2_lengthOf_2 (fun r_2 hk => ?_)
  refine zr_if_eq (tgt := 17) h dX2_lengthOf_5 (by decide) (fun c => ?_) (fun c => ?_)
  · have hk := zOk_t c hk
    refine zr_iconst (v := (zI 0)) h dX2_lengthOf_17 rfl ?_
    have hk := zOk_some hk
    exact zr_iret h dX2_lengthOf_18 ⟨rfl, _, rfl, hk⟩
  · have hk := zOk_f c hk
    refine zr_aload_n h dX2_lengthOf_8 0 rfl rfl ?_
    refine zr_getR h zfo_X2_19 lC_34 rfl dX2_lengthOf_9 ?_
    refine zr_iload_n h dX2_lengthOf_12 1 rfl rfl ?_
    have hb := zOk_chk hk
    have hk := hb.2
    refine zr_iald h lC_37 hb.1 dX2_lengthOf_13 ?_
    refine zr_goto (tgt := 18) h dX2_lengthOf_14 (by decide) ?_
    have hk := zOk_some hk
    exact zr_iret h dX2_lengthOf_18 ⟨rfl, _, rfl, hk⟩
theorem dX2_wordFact_0 : decode cX2_wordFact 0 = .ok (.aload_n 0, 1) := by decide +kernel
theorem dX2_wordFact_1 : decode cX2_wordFact 1 = .ok (.iload_n 1, 1) := by decide +kernel
theorem dX2_wordFact_2 : decode cX2_wordFact 2 = .ok (.invokevirtual 110, 3) := by decide +kernel
theorem dX2_wordFact_5 : decode cX2_wordFact 5 = .ok (.ifCond .eq 7, 3) := by decide +kernel
theorem dX2_wordFact_8 : decode cX2_wordFact 8 = .ok (.iload_n 2, 1) := by decide +kernel
theorem dX2_wordFact_9 : decode cX2_wordFact 9 = .ok (.ifCond .ge 5, 3) := by decide +kernel
theorem dX2_wordFact_12 : decode cX2_wordFact 12 = .ok (.iconst (-1), 1) := by decide +kernel
theorem dX2_wordFact_13 : decode cX2_wordFact 13 = .ok (.ireturn, 1) := by decide +kernel
theorem dX2_wordFact_14 : decode cX2_wordFact 14 = .ok (.iload_n 2, 1) := by decide +kernel
theorem dX2_wordFact_15 : decode cX2_wordFact 15 = .ok (.ifCond .ne 10, 3) := by decide +kernel
theorem dX2_wordFact_18 : decode cX2_wordFact 18 = .ok (.aload_n 0, 1) := by decide +kernel
theorem dX2_wordFact_19 : decode cX2_wordFact 19 = .ok (.getfield 15, 3) := by decide +kernel
theorem dX2_wordFact_22 : decode cX2_wordFact 22 = .ok (.iload_n 1, 1) := by decide +kernel
theorem dX2_wordFact_23 : decode cX2_wordFact 23 = .ok (.iaload, 1) := by decide +kernel
theorem dX2_wordFact_24 : decode cX2_wordFact 24 = .ok (.ireturn, 1) := by decide +kernel
theorem dX2_wordFact_25 : decode cX2_wordFact 25 = .ok (.iload_n 2, 1) := by decide +kernel
theorem dX2_wordFact_26 : decode cX2_wordFact 26 = .ok (.iconst 1, 1) := by decide +kernel
theorem dX2_wordFact_27 : decode cX2_wordFact 27 = .ok (.if_icmp .ne 12, 3) := by decide +kernel
theorem dX2_wordFact_30 : decode cX2_wordFact 30 = .ok (.aload_n 0, 1) := by decide +kernel
theorem dX2_wordFact_31 : decode cX2_wordFact 31 = .ok (.getfield 19, 3) := by decide +kernel
theorem dX2_wordFact_34 : decode cX2_wordFact 34 = .ok (.iload_n 1, 1) := by decide +kernel
theorem dX2_wordFact_35 : decode cX2_wordFact 35 = .ok (.iaload, 1) := by decide +kernel
theorem dX2_wordFact_36 : decode cX2_wordFact 36 = .ok (.goto 11, 3) := by decide +kernel
theorem dX2_wordFact_39 : decode cX2_wordFact 39 = .ok (.aload_n 0, 1) := by decide +kernel
theorem dX2_wordFact_40 : decode cX2_wordFact 40 = .ok (.iload_n 1, 1) := by decide +kernel
theorem dX2_wordFact_41 : decode cX2_wordFact 41 = .ok (.iload_n 2, 1) := by decide +kernel
theorem dX2_wordFact_42 : decode cX2_wordFact 42 = .ok (.iconst 2, 1) := by decide +kernel
theorem dX2_wordFact_43 : decode cX2_wordFact 43 = .ok (.isub, 1) := by decide +kernel
theorem dX2_wordFact_44 : decode cX2_wordFact 44 = .ok (.invokevirtual 99, 3) := by decide +kernel
theorem dX2_wordFact_47 : decode cX2_wordFact 47 = .ok (.ireturn, 1) := by decide +kernel
noncomputable def f_X2_wordFact (M : ZMem) (x1 : Int32) (x2 : Int32) : Option Int32 := zbind (f_X2_has M x1) (fun r_2 => if r_2 = (zI 0) then some (zI (-1)) else if (zI 0) ≤ x2 then if x2 = (zI 0) then zchk (zin x1 120) (some (M.1 36 (zix x1))) else if x2 = (zI 1) then zchk (zin x1 120) (some (M.1 37 (zix x1))) else zbind (f_X2_signAt M x1 (x2 - (zI 2))) (fun r_44 => some r_44) else some (zI (-1)))
set_option maxRecDepth 100000 in
set_option maxHeartbeats 4000000 in
theorem c_X2_wordFact (E : ZEv) (M : ZMem) (x1 : Int32) (x2 : Int32) (K : Int32 → Prop) (hk : zOk (f_X2_wordFact M x1 x2) K) : zCon lyC E yX2_wordFact cX2_wordFact 3 (some .int) 2 [zrf E 34, .int x1, .int x2] M (zRp M K) := by
  refine zcon_of (L0 := [(0, zrf E 34), (1, .int x1), (2, .int x2)]) (by decide) rfl (Nat.le_of_ble_eq_true rfl) (fun G h => ?_)
  have h : zRu lyC E G (zRp M K) cX2_wordFact RX2 3 (some .int) 2 := h
  unfold f_X2_wordFact at hk
  refine zr_aload_n h dX2_wordFact_0 0 rfl rfl ?_
  refine zr_iload_n h dX2_wordFact_1 1 rfl rfl ?_
  refine zr_callVp h lC_34 zcw_X2_110 (by decide) (c_X2_has E M x1 _ (zOk_bind hk)) rfl rfl (Nat.le_of_ble_eq_true rfl) dX2_wordFact_2 (fun r_2 hk => ?_)
  refine zr_if_eq (tgt := 12) h dX2_wordFact_5 (by decide) (fun c => ?_) (fun c => ?_)
  · have hk := zOk_t c hk
    refine zr_iconst (v := (zI (-1))) h dX2_wordFact_12 rfl ?_
    have hk := zOk_some hk
    exact zr_iret h dX2_wordFact_13 ⟨rfl, _, rfl, hk⟩
  · have hk := zOk_f c hk
    refine zr_iload_n h dX2_wordFact_8 2 rfl rfl ?_
    refine zr_if_ge (tgt := 14) h dX2_wordFact_9 (by decide) (fun c => ?_) (fun c => ?_)
    · have hk := zOk_t c hk
      refine zr_iload_n h dX2_wordFact_14 2 rfl rfl ?_
      refine zr_if_ne (tgt := 25) h dX2_wordFact_15 (by decide) (fun c => ?_) (fun c => ?_)
      · have hk := zOk_t c hk
        refine zr_aload_n h dX2_wordFact_18 0 rfl rfl ?_
        refine zr_getR h zfo_X2_15 lC_34 rfl dX2_wordFact_19 ?_
        refine zr_iload_n h dX2_wordFact_22 1 rfl rfl ?_
        have hb := zOk_chk hk
        have hk := hb.2
        refine zr_iald h lC_36 hb.1 dX2_wordFact_23 ?_
        have hk := zOk_some hk
        exact zr_iret h dX2_wordFact_24 ⟨rfl, _, rfl, hk⟩
      · have hk := zOk_f c hk
        refine zr_iload_n h dX2_wordFact_25 2 rfl rfl ?_
        refine zr_iconst (v := (zI 1)) h dX2_wordFact_26 rfl ?_
        refine zr_icmp_ne (tgt := 39) h dX2_wordFact_27 (by decide) (fun c => ?_) (fun c => ?_)
        · have hk := zOk_t c hk
          refine zr_aload_n h dX2_wordFact_30 0 rfl rfl ?_
          refine zr_getR h zfo_X2_19 lC_34 rfl dX2_wordFact_31 ?_
          refine zr_iload_n h dX2_wordFact_34 1 rfl rfl ?_
          have hb := zOk_chk hk
          have hk := hb.2
          refine zr_iald h lC_37 hb.1 dX2_wordFact_35 ?_
          refine zr_goto (tgt := 47) h dX2_wordFact_36 (by decide) ?_
          have hk := zOk_some hk
          exact zr_iret h dX2_wordFact_47 ⟨rfl, _, rfl, hk⟩
        · have hk := zOk_f c hk
          refine zr_aload_n h dX2_wordFact_39 0 rfl rfl ?_
          refine zr_iload_n h dX2_wordFact_40 1 rfl rfl ?_
          refine zr_iload_n h dX2_wordFact_41 2 rfl rfl ?_
          refine zr_iconst (v := (zI 2)) h dX2_wordFact_42 rfl ?_
          refine zr_isub h dX2_wordFact_43 ?_
          refine zr_callVp h lC_34 zcw_X2_99 (by decide) (c_X2_signAt E M x1 (x2 - (zI 2)) _ (zOk_bind hk)) rfl rfl (Nat.le_of_ble_eq_true rfl) dX2_wordFact_44 (fun r_44 hk => ?_)
          have hk := zOk_some hk
          exact zr_iret h dX2_wordFact_47 ⟨rfl, _, rfl, hk⟩
    · have hk := zOk_f c hk
      refine zr_iconst (v := (zI (-1))) h dX2_wordFact_12 rfl ?_
      have hk := zOk_some hk
      exact zr_iret h dX2_wordFact_13 ⟨rfl, _, rfl, hk⟩
theorem dX2_rankedWord_0 : decode cX2_rankedWord 0 = .ok (.aload_n 0, 1) := by decide +kernel
theorem dX2_rankedWord_1 : decode cX2_rankedWord 1 = .ok (.iload_n 1, 1) := by decide +kernel
theorem dX2_rankedWord_2 : decode cX2_rankedWord 2 = .ok (.invokevirtual 110, 3) := by decide +kernel
theorem dX2_rankedWord_5 : decode cX2_rankedWord 5 = .ok (.ifCond .eq 12, 3) := by decide +kernel
theorem dX2_rankedWord_8 : decode cX2_rankedWord 8 = .ok (.aload_n 0, 1) := by decide +kernel
theorem dX2_rankedWord_9 : decode cX2_rankedWord 9 = .ok (.getfield 22, 3) := by decide +kernel
theorem dX2_rankedWord_12 : decode cX2_rankedWord 12 = .ok (.iload_n 1, 1) := by decide +kernel
theorem dX2_rankedWord_13 : decode cX2_rankedWord 13 = .ok (.iaload, 1) := by decide +kernel
theorem dX2_rankedWord_14 : decode cX2_rankedWord 14 = .ok (.goto 4, 3) := by decide +kernel
theorem dX2_rankedWord_17 : decode cX2_rankedWord 17 = .ok (.iconst (-1), 1) := by decide +kernel
theorem dX2_rankedWord_18 : decode cX2_rankedWord 18 = .ok (.ireturn, 1) := by decide +kernel
noncomputable def f_X2_rankedWord (M : ZMem) (x1 : Int32) : Option Int32 := zbind (f_X2_has M x1) (fun r_2 => if r_2 = (zI 0) then some (zI (-1)) else zchk (zin x1 120) (some (M.1 38 (zix x1))))
set_option maxRecDepth 100000 in
set_option maxHeartbeats 4000000 in
theorem c_X2_rankedWord (E : ZEv) (M : ZMem) (x1 : Int32) (K : Int32 → Prop) (hk : zOk (f_X2_rankedWord M x1) K) : zCon lyC E yX2_rankedWord cX2_rankedWord 2 (some .int) 1 [zrf E 34, .int x1] M (zRp M K) := by
  refine zcon_of (L0 := [(0, zrf E 34), (1, .int x1)]) (by decide) rfl (Nat.le_of_ble_eq_true rfl) (fun G h => ?_)
  have h : zRu lyC E G (zRp M K) cX2_rankedWord RX2 2 (some .int) 1 := h
  unfold f_X2_rankedWord at hk
  refine zr_aload_n h dX2_rankedWord_0 0 rfl rfl ?_
  refine zr_iload_n h dX2_rankedWord_1 1 rfl rfl ?_
  refine zr_callVp h lC_34 zcw_X2_110 (by decide) (c_X2_has E M x1 _ (zOk_bind hk)) rfl rfl (Nat.le_of_ble_eq_true rfl) dX2_rankedWord_2 (fun r_2 hk => ?_)
  refine zr_if_eq (tgt := 17) h dX2_rankedWord_5 (by decide) (fun c => ?_) (fun c => ?_)
  · have hk := zOk_t c hk
    refine zr_iconst (v := (zI (-1))) h dX2_rankedWord_17 rfl ?_
    have hk := zOk_some hk
    exact zr_iret h dX2_rankedWord_18 ⟨rfl, _, rfl, hk⟩
  · have hk := zOk_f c hk
    refine zr_aload_n h dX2_rankedWord_8 0 rfl rfl ?_
    refine zr_getR h zfo_X2_22 lC_34 rfl dX2_rankedWord_9 ?_
    refine zr_iload_n h dX2_rankedWord_12 1 rfl rfl ?_
    have hb := zOk_chk hk
    have hk := hb.2
    refine zr_iald h lC_38 hb.1 dX2_rankedWord_13 ?_
    refine zr_goto (tgt := 18) h dX2_rankedWord_14 (by decide) ?_
    have hk := zOk_some hk
    exact zr_iret h dX2_rankedWord_18 ⟨rfl, _, rfl, hk⟩
theorem dX2_stemFact_0 : decode cX2_stemFact 0 = .ok (.iload_n 1, 1) := by decide +kernel
theorem dX2_stemFact_1 : decode cX2_stemFact 1 = .ok (.ifCond .lt 11, 3) := by decide +kernel
theorem dX2_stemFact_4 : decode cX2_stemFact 4 = .ok (.iload_n 1, 1) := by decide +kernel
theorem dX2_stemFact_5 : decode cX2_stemFact 5 = .ok (.aload_n 0, 1) := by decide +kernel
theorem dX2_stemFact_6 : decode cX2_stemFact 6 = .ok (.getfield 90, 3) := by decide +kernel
theorem dX2_stemFact_9 : decode cX2_stemFact 9 = .ok (.if_icmp .lt 5, 3) := by decide +kernel
theorem dX2_stemFact_12 : decode cX2_stemFact 12 = .ok (.iconst (-1), 1) := by decide +kernel
theorem dX2_stemFact_13 : decode cX2_stemFact 13 = .ok (.ireturn, 1) := by decide +kernel
theorem dX2_stemFact_14 : decode cX2_stemFact 14 = .ok (.iload_n 2, 1) := by decide +kernel
theorem dX2_stemFact_15 : decode cX2_stemFact 15 = .ok (.tableswitch 52 0 2 #[25, 35, 42], 25) := by decide +kernel
theorem dX2_stemFact_40 : decode cX2_stemFact 40 = .ok (.aload_n 0, 1) := by decide +kernel
theorem dX2_stemFact_41 : decode cX2_stemFact 41 = .ok (.getfield 28, 3) := by decide +kernel
theorem dX2_stemFact_44 : decode cX2_stemFact 44 = .ok (.iload_n 1, 1) := by decide +kernel
theorem dX2_stemFact_45 : decode cX2_stemFact 45 = .ok (.iaload, 1) := by decide +kernel
theorem dX2_stemFact_46 : decode cX2_stemFact 46 = .ok (.invokestatic 114, 3) := by decide +kernel
theorem dX2_stemFact_49 : decode cX2_stemFact 49 = .ok (.ireturn, 1) := by decide +kernel
theorem dX2_stemFact_50 : decode cX2_stemFact 50 = .ok (.aload_n 0, 1) := by decide +kernel
theorem dX2_stemFact_51 : decode cX2_stemFact 51 = .ok (.getfield 28, 3) := by decide +kernel
theorem dX2_stemFact_54 : decode cX2_stemFact 54 = .ok (.iload_n 1, 1) := by decide +kernel
theorem dX2_stemFact_55 : decode cX2_stemFact 55 = .ok (.iaload, 1) := by decide +kernel
theorem dX2_stemFact_56 : decode cX2_stemFact 56 = .ok (.ireturn, 1) := by decide +kernel
theorem dX2_stemFact_57 : decode cX2_stemFact 57 = .ok (.aload_n 0, 1) := by decide +kernel
theorem dX2_stemFact_58 : decode cX2_stemFact 58 = .ok (.getfield 25, 3) := by decide +kernel
theorem dX2_stemFact_61 : decode cX2_stemFact 61 = .ok (.iload_n 1, 1) := by decide +kernel
theorem dX2_stemFact_62 : decode cX2_stemFact 62 = .ok (.laload, 1) := by decide +kernel
theorem dX2_stemFact_63 : decode cX2_stemFact 63 = .ok (.invokestatic 48, 3) := by decide +kernel
theorem dX2_stemFact_66 : decode cX2_stemFact 66 = .ok (.ireturn, 1) := by decide +kernel
theorem dX2_stemFact_67 : decode cX2_stemFact 67 = .ok (.aload_n 0, 1) := by decide +kernel
theorem dX2_stemFact_68 : decode cX2_stemFact 68 = .ok (.getfield 25, 3) := by decide +kernel
theorem dX2_stemFact_71 : decode cX2_stemFact 71 = .ok (.iload_n 1, 1) := by decide +kernel
theorem dX2_stemFact_72 : decode cX2_stemFact 72 = .ok (.laload, 1) := by decide +kernel
theorem dX2_stemFact_73 : decode cX2_stemFact 73 = .ok (.iload_n 2, 1) := by decide +kernel
theorem dX2_stemFact_74 : decode cX2_stemFact 74 = .ok (.iconst 3, 1) := by decide +kernel
theorem dX2_stemFact_75 : decode cX2_stemFact 75 = .ok (.isub, 1) := by decide +kernel
theorem dX2_stemFact_76 : decode cX2_stemFact 76 = .ok (.invokestatic 33, 3) := by decide +kernel
theorem dX2_stemFact_79 : decode cX2_stemFact 79 = .ok (.ireturn, 1) := by decide +kernel
noncomputable def f_X2_stemFact (M : ZMem) (x1 : Int32) (x2 : Int32) : Option Int32 := if x1 < (zI 0) then some (zI (-1)) else if x1 < (M.1 34 8) then if x2 = (zI 0) then zchk (zin x1 60) (zbind (f_J6_bitCount_0f7a4 M (M.1 40 (zix x1))) (fun r_46 => some r_46)) else (if x2 = (zI 1) then zchk (zin x1 60) (some (M.1 40 (zix x1))) else (if x2 = (zI 2) then zchk (zin x1 60) (zbind (f_X2_lengthOfKey M (M.2 39 (zix x1))) (fun r_63 => some r_63)) else (zchk (zin x1 60) (zbind (f_X2_signOfKey M (M.2 39 (zix x1)) (x2 - (zI 3))) (fun r_76 => some r_76))))) else some (zI (-1))
set_option maxRecDepth 100000 in
set_option maxHeartbeats 4000000 in
theorem c_X2_stemFact (E : ZEv) (M : ZMem) (x1 : Int32) (x2 : Int32) (K : Int32 → Prop) (hk : zOk (f_X2_stemFact M x1 x2) K) : zCon lyC E yX2_stemFact cX2_stemFact 3 (some .int) 2 [zrf E 34, .int x1, .int x2] M (zRp M K) := by
  refine zcon_of (L0 := [(0, zrf E 34), (1, .int x1), (2, .int x2)]) (by decide) rfl (Nat.le_of_ble_eq_true rfl) (fun G h => ?_)
  have h : zRu lyC E G (zRp M K) cX2_stemFact RX2 3 (some .int) 2 := h
  unfold f_X2_stemFact at hk
  refine zr_iload_n h dX2_stemFact_0 1 rfl rfl ?_
  refine zr_if_lt (tgt := 12) h dX2_stemFact_1 (by decide) (fun c => ?_) (fun c => ?_)
  · have hk := zOk_t c hk
    refine zr_iconst (v := (zI (-1))) h dX2_stemFact_12 rfl ?_
    have hk := zOk_some hk
    exact zr_iret h dX2_stemFact_13 ⟨rfl, _, rfl, hk⟩
  · have hk := zOk_f c hk
    refine zr_iload_n h dX2_stemFact_4 1 rfl rfl ?_
    refine zr_aload_n h dX2_stemFact_5 0 rfl rfl ?_
    refine zr_getI h zfo_X2_90 lC_34 rfl dX2_stemFact_6 ?_
    refine zr_icmp_lt (tgt := 14) h dX2_stemFact_9 (by decide) (fun c => ?_) (fun c => ?_)
    · have hk := zOk_t c hk
      refine zr_iload_n h dX2_stemFact_14 2 rfl rfl ?_
      by_cases c0 : x2 = (zI 0)
      · have hk := zOk_t c0 hk
        refine zr_tabIn (tgt := 40) (off := 25) h dX2_stemFact_15 (by rw [c0]; decide) (by rw [c0]; decide) (by rw [c0]; decide) (by decide) ?_
        refine zr_aload_n h dX2_stemFact_40 0 rfl rfl ?_
        refine zr_getR h zfo_X2_28 lC_34 rfl dX2_stemFact_41 ?_
        refine zr_iload_n h dX2_stemFact_44 1 rfl rfl ?_
        have hb := zOk_chk hk
        have hk := hb.2
        refine zr_iald h lC_40 hb.1 dX2_stemFact_45 ?_
        refine zr_callSp h zcw_X2_114 (by decide) (c_J6_bitCount_0f7a4 E M (M.1 40 (zix x1)) _ (zOk_bind hk)) rfl rfl (Nat.le_of_ble_eq_true rfl) dX2_stemFact_46 (fun r_46 hk => ?_)
        have hk := zOk_some hk
        exact zr_iret h dX2_stemFact_49 ⟨rfl, _, rfl, hk⟩
      have hk := zOk_f c0 hk
      by_cases c1 : x2 = (zI 1)
      · have hk := zOk_t c1 hk
        refine zr_tabIn (tgt := 50) (off := 35) h dX2_stemFact_15 (by rw [c1]; decide) (by rw [c1]; decide) (by rw [c1]; decide) (by decide) ?_
        refine zr_aload_n h dX2_stemFact_50 0 rfl rfl ?_
        refine zr_getR h zfo_X2_28 lC_34 rfl dX2_stemFact_51 ?_
        refine zr_iload_n h dX2_stemFact_54 1 rfl rfl ?_
        have hb := zOk_chk hk
        have hk := hb.2
        refine zr_iald h lC_40 hb.1 dX2_stemFact_55 ?_
        have hk := zOk_some hk
        exact zr_iret h dX2_stemFact_56 ⟨rfl, _, rfl, hk⟩
      have hk := zOk_f c1 hk
      by_cases c2 : x2 = (zI 2)
      · have hk := zOk_t c2 hk
        refine zr_tabIn (tgt := 57) (off := 42) h dX2_stemFact_15 (by rw [c2]; decide) (by rw [c2]; decide) (by rw [c2]; decide) (by decide) ?_
        refine zr_aload_n h dX2_stemFact_57 0 rfl rfl ?_
        refine zr_getR h zfo_X2_25 lC_34 rfl dX2_stemFact_58 ?_
        refine zr_iload_n h dX2_stemFact_61 1 rfl rfl ?_
        have hb := zOk_chk hk
        have hk := hb.2
        refine zr_lald h lC_39 hb.1 dX2_stemFact_62 ?_
        refine zr_callSp h zcw_X2_48 (by decide) (c_X2_lengthOfKey E M (M.2 39 (zix x1)) _ (zOk_bind hk)) rfl rfl (Nat.le_of_ble_eq_true rfl) dX2_stemFact_63 (fun r_63 hk => ?_)
        have hk := zOk_some hk
        exact zr_iret h dX2_stemFact_66 ⟨rfl, _, rfl, hk⟩
      have hk := zOk_f c2 hk
      have hz : (x2).toInt ≠ 0 ∧ (x2).toInt ≠ 1 ∧ (x2).toInt ≠ 2 := ⟨zInt_ne c0, zInt_ne c1, zInt_ne c2⟩
      refine zr_tabOut (tgt := 67) h dX2_stemFact_15 (by omega) (by decide) ?_
      refine zr_aload_n h dX2_stemFact_67 0 rfl rfl ?_
      refine zr_getR h zfo_X2_25 lC_34 rfl dX2_stemFact_68 ?_
      refine zr_iload_n h dX2_stemFact_71 1 rfl rfl ?_
      have hb := zOk_chk hk
      have hk := hb.2
      refine zr_lald h lC_39 hb.1 dX2_stemFact_72 ?_
      refine zr_iload_n h dX2_stemFact_73 2 rfl rfl ?_
      refine zr_iconst (v := (zI 3)) h dX2_stemFact_74 rfl ?_
      refine zr_isub h dX2_stemFact_75 ?_
      refine zr_callSp h zcw_X2_33 (by decide) (c_X2_signOfKey E M (M.2 39 (zix x1)) (x2 - (zI 3)) _ (zOk_bind hk)) rfl rfl (Nat.le_of_ble_eq_true rfl) dX2_stemFact_76 (fun r_76 hk => ?_)
      have hk := zOk_some hk
      exact zr_iret h dX2_stemFact_79 ⟨rfl, _, rfl, hk⟩
    · have hk := zOk_f c hk
      refine zr_iconst (v := (zI (-1))) h dX2_stemFact_12 rfl ?_
      have hk := zOk_some hk
      exact zr_iret h dX2_stemFact_13 ⟨rfl, _, rfl, hk⟩
theorem dX2_holds_0 : decode cX2_holds 0 = .ok (.iconst 0, 1) := by decide +kernel
theorem dX2_holds_1 : decode cX2_holds 1 = .ok (.istore_n 3, 1) := by decide +kernel
theorem dX2_holds_2 : decode cX2_holds 2 = .ok (.iload_n 3, 1) := by decide +kernel
theorem dX2_holds_3 : decode cX2_holds 3 = .ok (.aload_n 0, 1) := by decide +kernel
theorem dX2_holds_4 : decode cX2_holds 4 = .ok (.iload_n 1, 1) := by decide +kernel
theorem dX2_holds_5 : decode cX2_holds 5 = .ok (.invokevirtual 123, 3) := by decide +kernel
theorem dX2_holds_8 : decode cX2_holds 8 = .ok (.if_icmp .ge 21, 3) := by decide +kernel
theorem dX2_holds_11 : decode cX2_holds 11 = .ok (.aload_n 0, 1) := by decide +kernel
theorem dX2_holds_12 : decode cX2_holds 12 = .ok (.iload_n 1, 1) := by decide +kernel
theorem dX2_holds_13 : decode cX2_holds 13 = .ok (.iload_n 3, 1) := by decide +kernel
theorem dX2_holds_14 : decode cX2_holds 14 = .ok (.invokevirtual 99, 3) := by decide +kernel
theorem dX2_holds_17 : decode cX2_holds 17 = .ok (.iload_n 2, 1) := by decide +kernel
theorem dX2_holds_18 : decode cX2_holds 18 = .ok (.if_icmp .ne 5, 3) := by decide +kernel
theorem dX2_holds_21 : decode cX2_holds 21 = .ok (.iconst 1, 1) := by decide +kernel
theorem dX2_holds_22 : decode cX2_holds 22 = .ok (.ireturn, 1) := by decide +kernel
theorem dX2_holds_23 : decode cX2_holds 23 = .ok (.iinc 3 1, 3) := by decide +kernel
theorem dX2_holds_26 : decode cX2_holds 26 = .ok (.goto (-24), 3) := by decide +kernel
theorem dX2_holds_29 : decode cX2_holds 29 = .ok (.iconst 0, 1) := by decide +kernel
theorem dX2_holds_30 : decode cX2_holds 30 = .ok (.ireturn, 1) := by decide +kernel
noncomputable def f_X2_holds_L2 (M : ZMem) (x1 : Int32) (x2 : Int32) (s : (Int32)) : Option ((Int32) ⊕ ((Unit) ⊕ Int32)) := zbind (f_X2_lengthOf M x1) (fun r_5 => if r_5 ≤ s then some (.inr (.inl ())) else zbind (f_X2_signAt M x1 s) (fun r_14 => if r_14 = x2 then some (.inr (.inr (zI 1))) else zbnd (s + (zI 1)) (fun x3_23 => some (.inl x3_23))))
set_option maxRecDepth 100000 in
set_option maxHeartbeats 4000000 in
theorem w_X2_holds_L2 {E : ZEv} {G : ZG} {K : Int32 → Prop} (M : ZMem) (h : zRu lyC E G (zRp M K) cX2_holds RX2 4 (some .boolean) 2) (x1 : Int32) (x2 : Int32) (s : (Int32)) (hk : zOk (zloop (f_X2_holds_L2 M x1 x2) s) (fun e => zsel e (fun e0 => G M 29 [] []) (fun f0 => K f0))) : G M 2 [(0, zrf E 34), (1, .int x1), (2, .int x2), (3, .int s)] [] := by
  refine zloop_walk (P := fun s => G M 2 [(0, zrf E 34), (1, .int x1), (2, .int x2), (3, .int s)] []) hk (fun s hk => ?_)
  unfold f_X2_holds_L2 at hk
  refine zr_iload_n h dX2_holds_2 3 rfl rfl ?_
  refine zr_aload_n h dX2_holds_3 0 rfl rfl ?_
  refine zr_iload_n h dX2_holds_4 1 rfl rfl ?_
  refine zr_callVp h lC_34 zcw_X2_123 (by decide) (c_X2_lengthOf E M x1 _ (zOk_bind hk)) rfl rfl (Nat.le_of_ble_eq_true rfl) dX2_holds_5 (fun r_5 hk => ?_)
  refine zr_icmp_ge (tgt := 29) h dX2_holds_8 (by decide) (fun c => ?_) (fun c => ?_)
  · have hk := zOk_t c hk
    have hk := zOk_some hk
    exact zr_weak h [] rfl hk
  · have hk := zOk_f c hk
    refine zr_aload_n h dX2_holds_11 0 rfl rfl ?_
    refine zr_iload_n h dX2_holds_12 1 rfl rfl ?_
    refine zr_iload_n h dX2_holds_13 3 rfl rfl ?_
    refine zr_callVp h lC_34 zcw_X2_99 (by decide) (c_X2_signAt E M x1 s _ (zOk_bind hk)) rfl rfl (Nat.le_of_ble_eq_true rfl) dX2_holds_14 (fun r_14 hk => ?_)
    refine zr_iload_n h dX2_holds_17 2 rfl rfl ?_
    refine zr_icmp_ne (tgt := 23) h dX2_holds_18 (by decide) (fun c => ?_) (fun c => ?_)
    · have hk := zOk_t c hk
      refine zr_iconst (v := (zI 1)) h dX2_holds_21 rfl ?_
      have hk := zOk_some hk
      exact zr_zret h dX2_holds_22 (by decide) ⟨rfl, _, rfl, hk⟩
    · have hk := zOk_f c hk
      obtain ⟨x3_23, ex⟩ : ∃ y : Int32, y = s + (zI 1) := ⟨_, rfl⟩
      have hk := zOk_bnd ex hk
      refine zr_iinc (v := x3_23) (L' := [(0, zrf E 34), (1, .int x1), (2, .int x2), (3, .int x3_23)]) h 3 [1, 2, 3, 0] dX2_holds_23 rfl (by rw [ex]; rfl) (by decide) rfl ?_
      refine zr_goto (tgt := 2) h dX2_holds_26 (by decide) ?_
      have hk := zOk_some hk
      exact zr_weak h [0, 1, 2, 3] rfl hk
noncomputable def f_X2_holds (M : ZMem) (x1 : Int32) (x2 : Int32) : Option Int32 := zbind (zloop (f_X2_holds_L2 M x1 x2) (zI 0)) (fun e2 => zsel e2 (fun e2a => some (zI 0)) (fun e2b => some e2b))
set_option maxRecDepth 100000 in
set_option maxHeartbeats 4000000 in
theorem c_X2_holds (E : ZEv) (M : ZMem) (x1 : Int32) (x2 : Int32) (K : Int32 → Prop) (hk : zOk (f_X2_holds M x1 x2) K) : zCon lyC E yX2_holds cX2_holds 4 (some .boolean) 2 [zrf E 34, .int x1, .int x2] M (zRp M K) := by
  refine zcon_of (L0 := [(0, zrf E 34), (1, .int x1), (2, .int x2)]) (by decide) rfl (Nat.le_of_ble_eq_true rfl) (fun G h => ?_)
  have h : zRu lyC E G (zRp M K) cX2_holds RX2 4 (some .boolean) 2 := h
  unfold f_X2_holds at hk
  refine zr_iconst (v := (zI 0)) h dX2_holds_0 rfl ?_
  refine zr_istore_n (L' := [(0, zrf E 34), (1, .int x1), (2, .int x2), (3, .int (zI 0))]) h [1, 2, 3, 0] dX2_holds_1 rfl (by decide) rfl ?_
  refine w_X2_holds_L2 M h x1 x2 (zI 0) (zOk_mono (zOk_bind hk) (fun e2 hk => ?_))
  cases e2 with
  | inl e2a =>
    have hk := zOk_selL hk
    refine zr_iconst (v := (zI 0)) h dX2_holds_29 rfl ?_
    have hk := zOk_some hk
    exact zr_zret h dX2_holds_30 (by decide) ⟨rfl, _, rfl, hk⟩
  | inr e2b =>
    have hk := zOk_selR hk
    have hk := zOk_some hk
    exact hk
theorem dX2_timesOf_0 : decode cX2_timesOf 0 = .ok (.iload_n 2, 1) := by decide +kernel
theorem dX2_timesOf_1 : decode cX2_timesOf 1 = .ok (.iconst 1, 1) := by decide +kernel
theorem dX2_timesOf_2 : decode cX2_timesOf 2 = .ok (.if_icmp .lt 8, 3) := by decide +kernel
theorem dX2_timesOf_5 : decode cX2_timesOf 5 = .ok (.iload_n 2, 1) := by decide +kernel
theorem dX2_timesOf_6 : decode cX2_timesOf 6 = .ok (.iconst 3, 1) := by decide +kernel
theorem dX2_timesOf_7 : decode cX2_timesOf 7 = .ok (.if_icmp .le 5, 3) := by decide +kernel
theorem dX2_timesOf_10 : decode cX2_timesOf 10 = .ok (.iconst (-1), 1) := by decide +kernel
theorem dX2_timesOf_11 : decode cX2_timesOf 11 = .ok (.ireturn, 1) := by decide +kernel
theorem dX2_timesOf_12 : decode cX2_timesOf 12 = .ok (.iconst 0, 1) := by decide +kernel
theorem dX2_timesOf_13 : decode cX2_timesOf 13 = .ok (.istore_n 3, 1) := by decide +kernel
theorem dX2_timesOf_14 : decode cX2_timesOf 14 = .ok (.iconst 0, 1) := by decide +kernel
theorem dX2_timesOf_15 : decode cX2_timesOf 15 = .ok (.istore 4, 2) := by decide +kernel
theorem dX2_timesOf_17 : decode cX2_timesOf 17 = .ok (.iload 4, 2) := by decide +kernel
theorem dX2_timesOf_19 : decode cX2_timesOf 19 = .ok (.aload_n 0, 1) := by decide +kernel
theorem dX2_timesOf_20 : decode cX2_timesOf 20 = .ok (.getfield 37, 3) := by decide +kernel
theorem dX2_timesOf_23 : decode cX2_timesOf 23 = .ok (.if_icmp .ge 73, 3) := by decide +kernel
theorem dX2_timesOf_26 : decode cX2_timesOf 26 = .ok (.iload_n 2, 1) := by decide +kernel
theorem dX2_timesOf_27 : decode cX2_timesOf 27 = .ok (.iconst 3, 1) := by decide +kernel
theorem dX2_timesOf_28 : decode cX2_timesOf 28 = .ok (.if_icmp .ne 24, 3) := by decide +kernel
theorem dX2_timesOf_31 : decode cX2_timesOf 31 = .ok (.iload_n 3, 1) := by decide +kernel
theorem dX2_timesOf_32 : decode cX2_timesOf 32 = .ok (.aload_n 0, 1) := by decide +kernel
theorem dX2_timesOf_33 : decode cX2_timesOf 33 = .ok (.iload 4, 2) := by decide +kernel
theorem dX2_timesOf_35 : decode cX2_timesOf 35 = .ok (.iload_n 1, 1) := by decide +kernel
theorem dX2_timesOf_36 : decode cX2_timesOf 36 = .ok (.invokevirtual 119, 3) := by decide +kernel
theorem dX2_timesOf_39 : decode cX2_timesOf 39 = .ok (.ifCond .eq 7, 3) := by decide +kernel
theorem dX2_timesOf_42 : decode cX2_timesOf 42 = .ok (.iconst 1, 1) := by decide +kernel
theorem dX2_timesOf_43 : decode cX2_timesOf 43 = .ok (.goto 4, 3) := by decide +kernel
theorem dX2_timesOf_46 : decode cX2_timesOf 46 = .ok (.iconst 0, 1) := by decide +kernel
theorem dX2_timesOf_47 : decode cX2_timesOf 47 = .ok (.iadd, 1) := by decide +kernel
theorem dX2_timesOf_48 : decode cX2_timesOf 48 = .ok (.istore_n 3, 1) := by decide +kernel
theorem dX2_timesOf_49 : decode cX2_timesOf 49 = .ok (.goto 41, 3) := by decide +kernel
theorem dX2_timesOf_52 : decode cX2_timesOf 52 = .ok (.aload_n 0, 1) := by decide +kernel
theorem dX2_timesOf_53 : decode cX2_timesOf 53 = .ok (.iload 4, 2) := by decide +kernel
theorem dX2_timesOf_55 : decode cX2_timesOf 55 = .ok (.iload_n 2, 1) := by decide +kernel
theorem dX2_timesOf_56 : decode cX2_timesOf 56 = .ok (.iconst 1, 1) := by decide +kernel
theorem dX2_timesOf_57 : decode cX2_timesOf 57 = .ok (.if_icmp .ne 7, 3) := by decide +kernel
theorem dX2_timesOf_60 : decode cX2_timesOf 60 = .ok (.iconst 0, 1) := by decide +kernel
theorem dX2_timesOf_61 : decode cX2_timesOf 61 = .ok (.goto 12, 3) := by decide +kernel
theorem dX2_timesOf_64 : decode cX2_timesOf 64 = .ok (.aload_n 0, 1) := by decide +kernel
theorem dX2_timesOf_65 : decode cX2_timesOf 65 = .ok (.getfield 19, 3) := by decide +kernel
theorem dX2_timesOf_68 : decode cX2_timesOf 68 = .ok (.iload 4, 2) := by decide +kernel
theorem dX2_timesOf_70 : decode cX2_timesOf 70 = .ok (.iaload, 1) := by decide +kernel
theorem dX2_timesOf_71 : decode cX2_timesOf 71 = .ok (.iconst 1, 1) := by decide +kernel
theorem dX2_timesOf_72 : decode cX2_timesOf 72 = .ok (.isub, 1) := by decide +kernel
theorem dX2_timesOf_73 : decode cX2_timesOf 73 = .ok (.invokevirtual 99, 3) := by decide +kernel
theorem dX2_timesOf_76 : decode cX2_timesOf 76 = .ok (.iload_n 1, 1) := by decide +kernel
theorem dX2_timesOf_77 : decode cX2_timesOf 77 = .ok (.if_icmp .ne 13, 3) := by decide +kernel
theorem dX2_timesOf_80 : decode cX2_timesOf 80 = .ok (.iload_n 3, 1) := by decide +kernel
theorem dX2_timesOf_81 : decode cX2_timesOf 81 = .ok (.aload_n 0, 1) := by decide +kernel
theorem dX2_timesOf_82 : decode cX2_timesOf 82 = .ok (.getfield 15, 3) := by decide +kernel
theorem dX2_timesOf_85 : decode cX2_timesOf 85 = .ok (.iload 4, 2) := by decide +kernel
theorem dX2_timesOf_87 : decode cX2_timesOf 87 = .ok (.iaload, 1) := by decide +kernel
theorem dX2_timesOf_88 : decode cX2_timesOf 88 = .ok (.iadd, 1) := by decide +kernel
theorem dX2_timesOf_89 : decode cX2_timesOf 89 = .ok (.istore_n 3, 1) := by decide +kernel
theorem dX2_timesOf_90 : decode cX2_timesOf 90 = .ok (.iinc 4 1, 3) := by decide +kernel
theorem dX2_timesOf_93 : decode cX2_timesOf 93 = .ok (.goto (-76), 3) := by decide +kernel
theorem dX2_timesOf_96 : decode cX2_timesOf 96 = .ok (.iload_n 3, 1) := by decide +kernel
theorem dX2_timesOf_97 : decode cX2_timesOf 97 = .ok (.ireturn, 1) := by decide +kernel
noncomputable def f_X2_timesOf_73_L17 (M : ZMem) (x1 : Int32) (x2 : Int32) (x3 : Int32) (x4 : Int32) (v1 : Int32) (v2 : Int32) : Option ((Int32 × Int32) ⊕ (Int32)) := zbind (f_X2_signAt M v1 v2) (fun r_73 => if r_73 = x1 then zchk (zin x4 120) (zbnd (x3 + (M.1 36 (zix x4))) (fun x3_89 => zbnd (x4 + (zI 1)) (fun x4_90 => some (.inl (x3_89, x4_90))))) else zbnd (x4 + (zI 1)) (fun x4_90 => some (.inl (x3, x4_90))))
set_option maxRecDepth 100000 in
set_option maxHeartbeats 4000000 in
theorem w_X2_timesOf_73_L17 {E : ZEv} {G : ZG} {K : Int32 → Prop} (M : ZMem) (h : zRu lyC E G (zRp M K) cX2_timesOf RX2 5 (some .int) 3) (x1 : Int32) (x2 : Int32) (x3 : Int32) (x4 : Int32) (v1 : Int32) (v2 : Int32) (hk : zOk (f_X2_timesOf_73_L17 M x1 x2 x3 x4 v1 v2) (zlp (fun s => G M 17 [(0, zrf E 34), (1, .int x1), (2, .int x2), (3, .int s.1), (4, .int s.2)] []) (fun e => G M 96 [(3, .int e)] []))) : G M 73 [(0, zrf E 34), (1, .int x1), (2, .int x2), (3, .int x3), (4, .int x4)] [.int v2, .int v1, zrf E 34] := by
  unfold f_X2_timesOf_73_L17 at hk
  refine zr_callVp h lC_34 zcw_X2_99 (by decide) (c_X2_signAt E M v1 v2 _ (zOk_bind hk)) rfl rfl (Nat.le_of_ble_eq_true rfl) dX2_timesOf_73 (fun r_73 hk => ?_)
  refine zr_iload_n h dX2_timesOf_76 1 rfl rfl ?_
  refine zr_icmp_ne (tgt := 90) h dX2_timesOf_77 (by decide) (fun c => ?_) (fun c => ?_)
  · have hk := zOk_t c hk
    refine zr_iload_n h dX2_timesOf_80 3 rfl rfl ?_
    refine zr_aload_n h dX2_timesOf_81 0 rfl rfl ?_
    refine zr_getR h zfo_X2_15 lC_34 rfl dX2_timesOf_82 ?_
    refine zr_iload h dX2_timesOf_85 4 rfl ?_
    have hb := zOk_chk hk
    have hk := hb.2
    refine zr_iald h lC_36 hb.1 dX2_timesOf_87 ?_
    refine zr_iadd h dX2_timesOf_88 ?_
    refine zr_topi (fun x3_89 ex => ?_)
    have hk := zOk_bnd ex hk
    refine zr_istore_n (L' := [(0, zrf E 34), (1, .int x1), (2, .int x2), (3, .int x3_89), (4, .int x4)]) h [1, 2, 3, 0, 4] dX2_timesOf_89 rfl (by decide) rfl ?_
    obtain ⟨x4_90, ex⟩ : ∃ y : Int32, y = x4 + (zI 1) := ⟨_, rfl⟩
    have hk := zOk_bnd ex hk
    refine zr_iinc (v := x4_90) (L' := [(0, zrf E 34), (1, .int x1), (2, .int x2), (3, .int x3_89), (4, .int x4_90)]) h 4 [1, 2, 3, 4, 0] dX2_timesOf_90 rfl (by rw [ex]; rfl) (by decide) rfl ?_
    refine zr_goto (tgt := 17) h dX2_timesOf_93 (by decide) ?_
    have hk := zOk_some hk
    exact zr_weak h [0, 1, 2, 3, 4] rfl hk
  · have hk := zOk_f c hk
    obtain ⟨x4_90, ex⟩ : ∃ y : Int32, y = x4 + (zI 1) := ⟨_, rfl⟩
    have hk := zOk_bnd ex hk
    refine zr_iinc (v := x4_90) (L' := [(0, zrf E 34), (1, .int x1), (2, .int x2), (3, .int x3), (4, .int x4_90)]) h 4 [1, 2, 3, 4, 0] dX2_timesOf_90 rfl (by rw [ex]; rfl) (by decide) rfl ?_
    refine zr_goto (tgt := 17) h dX2_timesOf_93 (by decide) ?_
    have hk := zOk_some hk
    exact zr_weak h [0, 1, 2, 3, 4] rfl hk
noncomputable def f_X2_timesOf_L17 (M : ZMem) (x1 : Int32) (x2 : Int32) (s : (Int32 × Int32)) : Option ((Int32 × Int32) ⊕ (Int32)) := if (M.1 34 6) ≤ s.2 then some (.inr s.1) else if x2 = (zI 3) then zbind (f_X2_holds M s.2 x1) (fun r_36 => if r_36 = (zI 0) then zbnd (s.1 + (zI 0)) (fun x3_48 => zbnd (s.2 + (zI 1)) (fun x4_90 => some (.inl (x3_48, x4_90)))) else zbnd (s.1 + (zI 1)) (fun x3_48 => zbnd (s.2 + (zI 1)) (fun x4_90 => some (.inl (x3_48, x4_90))))) else if x2 = (zI 1) then f_X2_timesOf_73_L17 M x1 x2 s.1 s.2 s.2 (zI 0) else zchk (zin s.2 120) (f_X2_timesOf_73_L17 M x1 x2 s.1 s.2 s.2 ((M.1 37 (zix s.2)) - (zI 1)))
set_option maxRecDepth 100000 in
set_option maxHeartbeats 4000000 in
theorem w_X2_timesOf_L17 {E : ZEv} {G : ZG} {K : Int32 → Prop} (M : ZMem) (h : zRu lyC E G (zRp M K) cX2_timesOf RX2 5 (some .int) 3) (x1 : Int32) (x2 : Int32) (s : (Int32 × Int32)) (hk : zOk (zloop (f_X2_timesOf_L17 M x1 x2) s) (fun e => G M 96 [(3, .int e)] [])) : G M 17 [(0, zrf E 34), (1, .int x1), (2, .int x2), (3, .int s.1), (4, .int s.2)] [] := by
  refine zloop_walk (P := fun s => G M 17 [(0, zrf E 34), (1, .int x1), (2, .int x2), (3, .int s.1), (4, .int s.2)] []) hk (fun s hk => ?_)
  unfold f_X2_timesOf_L17 at hk
  refine zr_iload h dX2_timesOf_17 4 rfl ?_
  refine zr_aload_n h dX2_timesOf_19 0 rfl rfl ?_
  refine zr_getI h zfo_X2_37 lC_34 rfl dX2_timesOf_20 ?_
  refine zr_icmp_ge (tgt := 96) h dX2_timesOf_23 (by decide) (fun c => ?_) (fun c => ?_)
  · have hk := zOk_t c hk
    have hk := zOk_some hk
    exact zr_weak h [3] rfl hk
  · have hk := zOk_f c hk
    refine zr_iload_n h dX2_timesOf_26 2 rfl rfl ?_
    refine zr_iconst (v := (zI 3)) h dX2_timesOf_27 rfl ?_
    refine zr_icmp_ne (tgt := 52) h dX2_timesOf_28 (by decide) (fun c => ?_) (fun c => ?_)
    · have hk := zOk_t c hk
      refine zr_iload_n h dX2_timesOf_31 3 rfl rfl ?_
      refine zr_aload_n h dX2_timesOf_32 0 rfl rfl ?_
      refine zr_iload h dX2_timesOf_33 4 rfl ?_
      refine zr_iload_n h dX2_timesOf_35 1 rfl rfl ?_
      refine zr_callVp h lC_34 zcw_X2_119 (by decide) (c_X2_holds E M s.2 x1 _ (zOk_bind hk)) rfl rfl (Nat.le_of_ble_eq_true rfl) dX2_timesOf_36 (fun r_36 hk => ?_)
      refine zr_if_eq (tgt := 46) h dX2_timesOf_39 (by decide) (fun c => ?_) (fun c => ?_)
      · have hk := zOk_t c hk
        refine zr_iconst (v := (zI 0)) h dX2_timesOf_46 rfl ?_
        refine zr_iadd h dX2_timesOf_47 ?_
        refine zr_topi (fun x3_48 ex => ?_)
        have hk := zOk_bnd ex hk
        refine zr_istore_n (L' := [(0, zrf E 34), (1, .int x1), (2, .int x2), (3, .int x3_48), (4, .int s.2)]) h [1, 2, 3, 0, 4] dX2_timesOf_48 rfl (by decide) rfl ?_
        refine zr_goto (tgt := 90) h dX2_timesOf_49 (by decide) ?_
        obtain ⟨x4_90, ex⟩ : ∃ y : Int32, y = s.2 + (zI 1) := ⟨_, rfl⟩
        have hk := zOk_bnd ex hk
        refine zr_iinc (v := x4_90) (L' := [(0, zrf E 34), (1, .int x1), (2, .int x2), (3, .int x3_48), (4, .int x4_90)]) h 4 [1, 2, 3, 4, 0] dX2_timesOf_90 rfl (by rw [ex]; rfl) (by decide) rfl ?_
        refine zr_goto (tgt := 17) h dX2_timesOf_93 (by decide) ?_
        have hk := zOk_some hk
        exact zr_weak h [0, 1, 2, 3, 4] rfl hk
      · have hk := zOk_f c hk
        refine zr_iconst (v := (zI 1)) h dX2_timesOf_42 rfl ?_
        refine zr_goto (tgt := 47) h dX2_timesOf_43 (by decide) ?_
        refine zr_iadd h dX2_timesOf_47 ?_
        refine zr_topi (fun x3_48 ex => ?_)
        have hk := zOk_bnd ex hk
        refine zr_istore_n (L' := [(0, zrf E 34), (1, .int x1), (2, .int x2), (3, .int x3_48), (4, .int s.2)]) h [1, 2, 3, 0, 4] dX2_timesOf_48 rfl (by decide) rfl ?_
        refine zr_goto (tgt := 90) h dX2_timesOf_49 (by decide) ?_
        obtain ⟨x4_90, ex⟩ : ∃ y : Int32, y = s.2 + (zI 1) := ⟨_, rfl⟩
        have hk := zOk_bnd ex hk
        refine zr_iinc (v := x4_90) (L' := [(0, zrf E 34), (1, .int x1), (2, .int x2), (3, .int x3_48), (4, .int x4_90)]) h 4 [1, 2, 3, 4, 0] dX2_timesOf_90 rfl (by rw [ex]; rfl) (by decide) rfl ?_
        refine zr_goto (tgt := 17) h dX2_timesOf_93 (by decide) ?_
        have hk := zOk_some hk
        exact zr_weak h [0, 1, 2, 3, 4] rfl hk
    · have hk := zOk_f c hk
      refine zr_aload_n h dX2_timesOf_52 0 rfl rfl ?_
      refine zr_iload h dX2_timesOf_53 4 rfl ?_
      refine zr_iload_n h dX2_timesOf_55 2 rfl rfl ?_
      refine zr_iconst (v := (zI 1)) h dX2_timesOf_56 rfl ?_
      refine zr_icmp_ne (tgt := 64) h dX2_timesOf_57 (by decide) (fun c => ?_) (fun c => ?_)
      · have hk := zOk_t c hk
        refine zr_iconst (v := (zI 0)) h dX2_timesOf_60 rfl ?_
        refine zr_goto (tgt := 73) h dX2_timesOf_61 (by decide) ?_
        exact w_X2_timesOf_73_L17 M h x1 x2 s.1 s.2 s.2 (zI 0) hk
      · have hk := zOk_f c hk
        refine zr_aload_n h dX2_timesOf_64 0 rfl rfl ?_
        refine zr_getR h zfo_X2_19 lC_34 rfl dX2_timesOf_65 ?_
        refine zr_iload h dX2_timesOf_68 4 rfl ?_
        have hb := zOk_chk hk
        have hk := hb.2
        refine zr_iald h lC_37 hb.1 dX2_timesOf_70 ?_
        refine zr_iconst (v := (zI 1)) h dX2_timesOf_71 rfl ?_
        refine zr_isub h dX2_timesOf_72 ?_
        exact w_X2_timesOf_73_L17 M h x1 x2 s.1 s.2 s.2 ((M.1 37 (zix s.2)) - (zI 1)) hk
noncomputable def f_X2_timesOf (M : ZMem) (x1 : Int32) (x2 : Int32) : Option Int32 := if x2 < (zI 1) then some (zI (-1)) else if x2 ≤ (zI 3) then zbind (zloop (f_X2_timesOf_L17 M x1 x2) ((zI 0), (zI 0))) (fun e17 => some e17) else some (zI (-1))
set_option maxRecDepth 100000 in
set_option maxHeartbeats 4000000 in
theorem c_X2_timesOf (E : ZEv) (M : ZMem) (x1 : Int32) (x2 : Int32) (K : Int32 → Prop) (hk : zOk (f_X2_timesOf M x1 x2) K) : zCon lyC E yX2_timesOf cX2_timesOf 5 (some .int) 3 [zrf E 34, .int x1, .int x2] M (zRp M K) := by
  refine zcon_of (L0 := [(0, zrf E 34), (1, .int x1), (2, .int x2)]) (by decide) rfl (Nat.le_of_ble_eq_true rfl) (fun G h => ?_)
  have h : zRu lyC E G (zRp M K) cX2_timesOf RX2 5 (some .int) 3 := h
  unfold f_X2_timesOf at hk
  refine zr_iload_n h dX2_timesOf_0 2 rfl rfl ?_
  refine zr_iconst (v := (zI 1)) h dX2_timesOf_1 rfl ?_
  refine zr_icmp_lt (tgt := 10) h dX2_timesOf_2 (by decide) (fun c => ?_) (fun c => ?_)
  · have hk := zOk_t c hk
    refine zr_iconst (v := (zI (-1))) h dX2_timesOf_10 rfl ?_
    have hk := zOk_some hk
    exact zr_iret h dX2_timesOf_11 ⟨rfl, _, rfl, hk⟩
  · have hk := zOk_f c hk
    refine zr_iload_n h dX2_timesOf_5 2 rfl rfl ?_
    refine zr_iconst (v := (zI 3)) h dX2_timesOf_6 rfl ?_
    refine zr_icmp_le (tgt := 12) h dX2_timesOf_7 (by decide) (fun c => ?_) (fun c => ?_)
    · have hk := zOk_t c hk
      refine zr_iconst (v := (zI 0)) h dX2_timesOf_12 rfl ?_
      refine zr_istore_n (L' := [(0, zrf E 34), (1, .int x1), (2, .int x2), (3, .int (zI 0))]) h [1, 2, 3, 0] dX2_timesOf_13 rfl (by decide) rfl ?_
      refine zr_iconst (v := (zI 0)) h dX2_timesOf_14 rfl ?_
      refine zr_istore (L' := [(0, zrf E 34), (1, .int x1), (2, .int x2), (3, .int (zI 0)), (4, .int (zI 0))]) h [1, 2, 3, 4, 0] dX2_timesOf_15 (by decide) rfl ?_
      refine w_X2_timesOf_L17 M h x1 x2 ((zI 0), (zI 0)) (zOk_mono (zOk_bind hk) (fun e17 hk => ?_))
      refine zr_iload_n h dX2_timesOf_96 0 rfl rfl ?_
      have hk := zOk_some hk
      exact zr_iret h dX2_timesOf_97 ⟨rfl, _, rfl, hk⟩
    · have hk := zOk_f c hk
      refine zr_iconst (v := (zI (-1))) h dX2_timesOf_10 rfl ?_
      have hk := zOk_some hk
      exact zr_iret h dX2_timesOf_11 ⟨rfl, _, rfl, hk⟩
theorem dX5_forgetWords_0 : decode cX5_forgetWords 0 = .ok (.aload_n 0, 1) := by decide +kernel
theorem dX5_forgetWords_1 : decode cX5_forgetWords 1 = .ok (.getfield 9, 3) := by decide +kernel
theorem dX5_forgetWords_4 : decode cX5_forgetWords 4 = .ok (.iconst 0, 1) := by decide +kernel
theorem dX5_forgetWords_5 : decode cX5_forgetWords 5 = .ok (.invokestatic 25, 3) := by decide +kernel
theorem dX5_forgetWords_8 : decode cX5_forgetWords 8 = .ok (.return_, 1) := by decide +kernel
noncomputable def f_X5_forgetWords (q : Nat) (M : ZMem) : Option ZMem := zbind (f_J7_fill_53178 (q + 1) 20 M (zI 0)) (fun M_5 => some M_5)
set_option maxRecDepth 100000 in
set_option maxHeartbeats 4000000 in
theorem c_X5_forgetWords (E : ZEv) (q : Nat) (hq0 : lyC[q]? = some (.inr (5, [none, some (q + 1), some (q + 2), some (q + 3)]))) (hq1 : lyC[q + 1]? = some (.inl (0, 20))) (hq2 : lyC[q + 2]? = some (.inl (0, 20))) (hq3 : lyC[q + 3]? = some (.inl (0, 20))) (M : ZMem) (K : ZMem → Prop) (hk : zOk (f_X5_forgetWords q M) K) : zCon lyC E yX5_forgetWords cX5_forgetWords 1 none 1 [zrf E q] M (zRv K) := by
  refine zcon_of (L0 := [(0, zrf E q)]) (by decide) rfl (Nat.le_of_ble_eq_true rfl) (fun G h => ?_)
  have h : zRu lyC E G (zRv K) cX5_forgetWords RX5 1 none 1 := h
  unfold f_X5_forgetWords at hk
  refine zr_aload_n h dX5_forgetWords_0 0 rfl rfl ?_
  refine zr_getR h zfo_X5_9 hq0 rfl dX5_forgetWords_1 ?_
  refine zr_iconst (v := (zI 0)) h dX5_forgetWords_4 rfl ?_
  refine zr_callSv h zcw_X5_25 (by decide) (c_J7_fill_53178 E (q + 1) 20 hq1 M (zI 0) _ (zOk_bind hk)) rfl rfl (Nat.le_of_ble_eq_true rfl) dX5_forgetWords_5 (fun M_5 hk => ?_)
  have hk := zOk_some hk
  exact zr_vret h dX5_forgetWords_8 ⟨rfl, hk⟩
theorem dX5_settle_0 : decode cX5_settle 0 = .ok (.aload_n 0, 1) := by decide +kernel
theorem dX5_settle_1 : decode cX5_settle 1 = .ok (.getfield 9, 3) := by decide +kernel
theorem dX5_settle_4 : decode cX5_settle 4 = .ok (.iconst 0, 1) := by decide +kernel
theorem dX5_settle_5 : decode cX5_settle 5 = .ok (.aload_n 0, 1) := by decide +kernel
theorem dX5_settle_6 : decode cX5_settle 6 = .ok (.getfield 15, 3) := by decide +kernel
theorem dX5_settle_9 : decode cX5_settle 9 = .ok (.iconst 0, 1) := by decide +kernel
theorem dX5_settle_10 : decode cX5_settle 10 = .ok (.bipush 20, 2) := by decide +kernel
theorem dX5_settle_12 : decode cX5_settle 12 = .ok (.invokestatic 39, 3) := by decide +kernel
theorem dX5_settle_15 : decode cX5_settle 15 = .ok (.iconst 0, 1) := by decide +kernel
theorem dX5_settle_16 : decode cX5_settle 16 = .ok (.istore_n 3, 1) := by decide +kernel
theorem dX5_settle_17 : decode cX5_settle 17 = .ok (.iload_n 3, 1) := by decide +kernel
theorem dX5_settle_18 : decode cX5_settle 18 = .ok (.aload_n 2, 1) := by decide +kernel
theorem dX5_settle_19 : decode cX5_settle 19 = .ok (.invokevirtual 45, 3) := by decide +kernel
theorem dX5_settle_22 : decode cX5_settle 22 = .ok (.if_icmp .ge 46, 3) := by decide +kernel
theorem dX5_settle_25 : decode cX5_settle 25 = .ok (.aload_n 2, 1) := by decide +kernel
theorem dX5_settle_26 : decode cX5_settle 26 = .ok (.iload_n 3, 1) := by decide +kernel
theorem dX5_settle_27 : decode cX5_settle 27 = .ok (.aload_n 0, 1) := by decide +kernel
theorem dX5_settle_28 : decode cX5_settle 28 = .ok (.getfield 21, 3) := by decide +kernel
theorem dX5_settle_31 : decode cX5_settle 31 = .ok (.invokevirtual 51, 3) := by decide +kernel
theorem dX5_settle_34 : decode cX5_settle 34 = .ok (.ifCond .eq 28, 3) := by decide +kernel
theorem dX5_settle_37 : decode cX5_settle 37 = .ok (.aload_n 0, 1) := by decide +kernel
theorem dX5_settle_38 : decode cX5_settle 38 = .ok (.getfield 15, 3) := by decide +kernel
theorem dX5_settle_41 : decode cX5_settle 41 = .ok (.aload_n 1, 1) := by decide +kernel
theorem dX5_settle_42 : decode cX5_settle 42 = .ok (.aload_n 2, 1) := by decide +kernel
theorem dX5_settle_43 : decode cX5_settle 43 = .ok (.iload_n 3, 1) := by decide +kernel
theorem dX5_settle_44 : decode cX5_settle 44 = .ok (.invokevirtual 55, 3) := by decide +kernel
theorem dX5_settle_47 : decode cX5_settle 47 = .ok (.invokevirtual 59, 3) := by decide +kernel
theorem dX5_settle_50 : decode cX5_settle 50 = .ok (.aload_n 1, 1) := by decide +kernel
theorem dX5_settle_51 : decode cX5_settle 51 = .ok (.aload_n 2, 1) := by decide +kernel
theorem dX5_settle_52 : decode cX5_settle 52 = .ok (.iload_n 3, 1) := by decide +kernel
theorem dX5_settle_53 : decode cX5_settle 53 = .ok (.invokevirtual 64, 3) := by decide +kernel
theorem dX5_settle_56 : decode cX5_settle 56 = .ok (.invokevirtual 59, 3) := by decide +kernel
theorem dX5_settle_59 : decode cX5_settle 59 = .ok (.invokestatic 31, 3) := by decide +kernel
theorem dX5_settle_62 : decode cX5_settle 62 = .ok (.iinc 3 1, 3) := by decide +kernel
theorem dX5_settle_65 : decode cX5_settle 65 = .ok (.goto (-48), 3) := by decide +kernel
theorem dX5_settle_68 : decode cX5_settle 68 = .ok (.aload_n 0, 1) := by decide +kernel
theorem dX5_settle_69 : decode cX5_settle 69 = .ok (.getfield 18, 3) := by decide +kernel
theorem dX5_settle_72 : decode cX5_settle 72 = .ok (.invokestatic 67, 3) := by decide +kernel
theorem dX5_settle_75 : decode cX5_settle 75 = .ok (.iconst 0, 1) := by decide +kernel
theorem dX5_settle_76 : decode cX5_settle 76 = .ok (.istore_n 3, 1) := by decide +kernel
theorem dX5_settle_77 : decode cX5_settle 77 = .ok (.iload_n 3, 1) := by decide +kernel
theorem dX5_settle_78 : decode cX5_settle 78 = .ok (.bipush 20, 2) := by decide +kernel
theorem dX5_settle_80 : decode cX5_settle 80 = .ok (.if_icmp .ge 53, 3) := by decide +kernel
theorem dX5_settle_83 : decode cX5_settle 83 = .ok (.iload_n 3, 1) := by decide +kernel
theorem dX5_settle_84 : decode cX5_settle 84 = .ok (.iconst 1, 1) := by decide +kernel
theorem dX5_settle_85 : decode cX5_settle 85 = .ok (.iadd, 1) := by decide +kernel
theorem dX5_settle_86 : decode cX5_settle 86 = .ok (.istore 4, 2) := by decide +kernel
theorem dX5_settle_88 : decode cX5_settle 88 = .ok (.iload 4, 2) := by decide +kernel
theorem dX5_settle_90 : decode cX5_settle 90 = .ok (.bipush 20, 2) := by decide +kernel
theorem dX5_settle_92 : decode cX5_settle 92 = .ok (.if_icmp .ge 35, 3) := by decide +kernel
theorem dX5_settle_95 : decode cX5_settle 95 = .ok (.aload_n 0, 1) := by decide +kernel
theorem dX5_settle_96 : decode cX5_settle 96 = .ok (.getfield 15, 3) := by decide +kernel
theorem dX5_settle_99 : decode cX5_settle 99 = .ok (.iload_n 3, 1) := by decide +kernel
theorem dX5_settle_100 : decode cX5_settle 100 = .ok (.iaload, 1) := by decide +kernel
theorem dX5_settle_101 : decode cX5_settle 101 = .ok (.iload 4, 2) := by decide +kernel
theorem dX5_settle_103 : decode cX5_settle 103 = .ok (.iushr, 1) := by decide +kernel
theorem dX5_settle_104 : decode cX5_settle 104 = .ok (.iconst 1, 1) := by decide +kernel
theorem dX5_settle_105 : decode cX5_settle 105 = .ok (.iand, 1) := by decide +kernel
theorem dX5_settle_106 : decode cX5_settle 106 = .ok (.iconst 1, 1) := by decide +kernel
theorem dX5_settle_107 : decode cX5_settle 107 = .ok (.if_icmp .ne 14, 3) := by decide +kernel
theorem dX5_settle_110 : decode cX5_settle 110 = .ok (.aload_n 0, 1) := by decide +kernel
theorem dX5_settle_111 : decode cX5_settle 111 = .ok (.getfield 18, 3) := by decide +kernel
theorem dX5_settle_114 : decode cX5_settle 114 = .ok (.iload_n 3, 1) := by decide +kernel
theorem dX5_settle_115 : decode cX5_settle 115 = .ok (.iload 4, 2) := by decide +kernel
theorem dX5_settle_117 : decode cX5_settle 117 = .ok (.invokestatic 71, 3) := by decide +kernel
theorem dX5_settle_120 : decode cX5_settle 120 = .ok (.pop, 1) := by decide +kernel
theorem dX5_settle_121 : decode cX5_settle 121 = .ok (.iinc 4 1, 3) := by decide +kernel
theorem dX5_settle_124 : decode cX5_settle 124 = .ok (.goto (-36), 3) := by decide +kernel
theorem dX5_settle_127 : decode cX5_settle 127 = .ok (.iinc 3 1, 3) := by decide +kernel
theorem dX5_settle_130 : decode cX5_settle 130 = .ok (.goto (-53), 3) := by decide +kernel
theorem dX5_settle_133 : decode cX5_settle 133 = .ok (.return_, 1) := by decide +kernel
noncomputable def f_X5_settle_L17 (q : Nat) (s : (ZMem × Int32)) : Option ((ZMem × Int32) ⊕ (ZMem)) := zbind (f_X1_cluesHeld s.1) (fun r_19 => if r_19 ≤ s.2 then some (.inr s.1) else zbind (f_X1_clueIsOf s.1 s.2 (s.1.1 q 0)) (fun r_31 => if r_31 = (zI 0) then zbnd (s.2 + (zI 1)) (fun x3_62 => some (.inl (s.1, x3_62))) else zbind (f_X1_clueOne s.1 s.2) (fun r_44 => zbind (f_X0_signOf s.1 r_44) (fun r_47 => zbind (f_X1_clueOther s.1 s.2) (fun r_53 => zbind (f_X0_signOf s.1 r_53) (fun r_56 => zbind (f_X5_link (q + 2) 20 s.1 r_47 r_56) (fun M_59 => zbnd (s.2 + (zI 1)) (fun x3_62 => some (.inl (M_59, x3_62))))))))))
set_option maxRecDepth 100000 in
set_option maxHeartbeats 4000000 in
theorem w_X5_settle_L17 {E : ZEv} {G : ZG} {K : ZMem → Prop} (h : zRu lyC E G (zRv K) cX5_settle RX5 5 none 2) (q : Nat) (hq0 : lyC[q]? = some (.inr (5, [none, some (q + 1), some (q + 2), some (q + 3)]))) (hq1 : lyC[q + 1]? = some (.inl (0, 20))) (hq2 : lyC[q + 2]? = some (.inl (0, 20))) (hq3 : lyC[q + 3]? = some (.inl (0, 20))) (s : (ZMem × Int32)) (hk : zOk (zloop (f_X5_settle_L17 q) s) (fun e => G e 68 [(0, zrf E q)] [])) : G s.1 17 [(0, zrf E q), (1, zrf E 3), (2, zrf E 20), (3, .int s.2)] [] := by
  refine zloop_walk (P := fun s => G s.1 17 [(0, zrf E q), (1, zrf E 3), (2, zrf E 20), (3, .int s.2)] []) hk (fun s hk => ?_)
  unfold f_X5_settle_L17 at hk
  refine zr_iload_n h dX5_settle_17 3 rfl rfl ?_
  refine zr_aload_n h dX5_settle_18 2 rfl rfl ?_
  refine zr_callVp h lC_20 zcw_X5_45 (by decide) (c_X1_cluesHeld E s.1 _ (zOk_bind hk)) rfl rfl (Nat.le_of_ble_eq_true rfl) dX5_settle_19 (fun r_19 hk => ?_)
  refine zr_icmp_ge (tgt := 68) h dX5_settle_22 (by decide) (fun c => ?_) (fun c => ?_)
  · have hk := zOk_t c hk
    have hk := zOk_some hk
    exact zr_weak h [0] rfl hk
  · have hk := zOk_f c hk
    refine zr_aload_n h dX5_settle_25 2 rfl rfl ?_
    refine zr_iload_n h dX5_settle_26 3 rfl rfl ?_
    refine zr_aload_n h dX5_settle_27 0 rfl rfl ?_
    refine zr_getI h zfo_X5_21 hq0 rfl dX5_settle_28 ?_
    refine zr_callVp h lC_20 zcw_X5_51 (by decide) (c_X1_clueIsOf E s.1 s.2 (s.1.1 q 0) _ (zOk_bind hk)) rfl rfl (Nat.le_of_ble_eq_true rfl) dX5_settle_31 (fun r_31 hk => ?_)
    refine zr_if_eq (tgt := 62) h dX5_settle_34 (by decide) (fun c => ?_) (fun c => ?_)
    · have hk := zOk_t c hk
      obtain ⟨x3_62, ex⟩ : ∃ y : Int32, y = s.2 + (zI 1) := ⟨_, rfl⟩
      have hk := zOk_bnd ex hk
      refine zr_iinc (v := x3_62) (L' := [(0, zrf E q), (1, zrf E 3), (2, zrf E 20), (3, .int x3_62)]) h 3 [1, 2, 3, 0] dX5_settle_62 rfl (by rw [ex]; rfl) (by decide) rfl ?_
      refine zr_goto (tgt := 17) h dX5_settle_65 (by decide) ?_
      have hk := zOk_some hk
      exact zr_weak h [0, 1, 2, 3] rfl hk
    · have hk := zOk_f c hk
      refine zr_aload_n h dX5_settle_37 0 rfl rfl ?_
      refine zr_getR h zfo_X5_15 hq0 rfl dX5_settle_38 ?_
      refine zr_aload_n h dX5_settle_41 1 rfl rfl ?_
      refine zr_aload_n h dX5_settle_42 2 rfl rfl ?_
      refine zr_iload_n h dX5_settle_43 3 rfl rfl ?_
      refine zr_callVp h lC_20 zcw_X5_55 (by decide) (c_X1_clueOne E s.1 s.2 _ (zOk_bind hk)) rfl rfl (Nat.le_of_ble_eq_true rfl) dX5_settle_44 (fun r_44 hk => ?_)
      refine zr_callVp h lC_3 zcw_X5_59 (by decide) (c_X0_signOf E s.1 r_44 _ (zOk_bind hk)) rfl rfl (Nat.le_of_ble_eq_true rfl) dX5_settle_47 (fun r_47 hk => ?_)
      refine zr_aload_n h dX5_settle_50 1 rfl rfl ?_
      refine zr_aload_n h dX5_settle_51 2 rfl rfl ?_
      refine zr_iload_n h dX5_settle_52 3 rfl rfl ?_
      refine zr_callVp h lC_20 zcw_X5_64 (by decide) (c_X1_clueOther E s.1 s.2 _ (zOk_bind hk)) rfl rfl (Nat.le_of_ble_eq_true rfl) dX5_settle_53 (fun r_53 hk => ?_)
      refine zr_callVp h lC_3 zcw_X5_59 (by decide) (c_X0_signOf E s.1 r_53 _ (zOk_bind hk)) rfl rfl (Nat.le_of_ble_eq_true rfl) dX5_settle_56 (fun r_56 hk => ?_)
      refine zr_callSv h zcw_X5_31 (by decide) (c_X5_link E (q + 2) 20 hq2 s.1 r_47 r_56 _ (zOk_bind hk)) rfl rfl (Nat.le_of_ble_eq_true rfl) dX5_settle_59 (fun M_59 hk => ?_)
      obtain ⟨x3_62, ex⟩ : ∃ y : Int32, y = s.2 + (zI 1) := ⟨_, rfl⟩
      have hk := zOk_bnd ex hk
      refine zr_iinc (v := x3_62) (L' := [(0, zrf E q), (1, zrf E 3), (2, zrf E 20), (3, .int x3_62)]) h 3 [1, 2, 3, 0] dX5_settle_62 rfl (by rw [ex]; rfl) (by decide) rfl ?_
      refine zr_goto (tgt := 17) h dX5_settle_65 (by decide) ?_
      have hk := zOk_some hk
      exact zr_weak h [0, 1, 2, 3] rfl hk
noncomputable def f_X5_settle_L88 (q : Nat) (x3 : Int32) (s : (ZMem × Int32)) : Option ((ZMem × Int32) ⊕ (ZMem)) := if (zI 20) ≤ s.2 then some (.inr s.1) else zchk (zin x3 20) (if ((zushr (s.1.1 (q + 2) (zix x3)) s.2) &&& (zI 1)) = (zI 1) then zbind (f_X11_joinLabels (q + 3) 20 s.1 x3 s.2) (fun r_117 => zbnd (s.2 + (zI 1)) (fun x4_121 => some (.inl (r_117.1, x4_121)))) else zbnd (s.2 + (zI 1)) (fun x4_121 => some (.inl (s.1, x4_121))))
set_option maxRecDepth 100000 in
set_option maxHeartbeats 4000000 in
theorem w_X5_settle_L88 {E : ZEv} {G : ZG} {K : ZMem → Prop} (h : zRu lyC E G (zRv K) cX5_settle RX5 5 none 2) (q : Nat) (hq0 : lyC[q]? = some (.inr (5, [none, some (q + 1), some (q + 2), some (q + 3)]))) (hq1 : lyC[q + 1]? = some (.inl (0, 20))) (hq2 : lyC[q + 2]? = some (.inl (0, 20))) (hq3 : lyC[q + 3]? = some (.inl (0, 20))) (x3 : Int32) (s : (ZMem × Int32)) (hk : zOk (zloop (f_X5_settle_L88 q x3) s) (fun e => G e 127 [(0, zrf E q), (3, .int x3)] [])) : G s.1 88 [(0, zrf E q), (3, .int x3), (4, .int s.2)] [] := by
  refine zloop_walk (P := fun s => G s.1 88 [(0, zrf E q), (3, .int x3), (4, .int s.2)] []) hk (fun s hk => ?_)
  unfold f_X5_settle_L88 at hk
  refine zr_iload h dX5_settle_88 2 rfl ?_
  refine zr_bipush (v := (zI 20)) h dX5_settle_90 (by decide) ?_
  refine zr_icmp_ge (tgt := 127) h dX5_settle_92 (by decide) (fun c => ?_) (fun c => ?_)
  · have hk := zOk_t c hk
    have hk := zOk_some hk
    exact zr_weak h [0, 1] rfl hk
  · have hk := zOk_f c hk
    refine zr_aload_n h dX5_settle_95 0 rfl rfl ?_
    refine zr_getR h zfo_X5_15 hq0 rfl dX5_settle_96 ?_
    refine zr_iload_n h dX5_settle_99 1 rfl rfl ?_
    have hb := zOk_chk hk
    have hk := hb.2
    refine zr_iald h hq2 hb.1 dX5_settle_100 ?_
    refine zr_iload h dX5_settle_101 2 rfl ?_
    refine zr_iushr h dX5_settle_103 ?_
    refine zr_iconst (v := (zI 1)) h dX5_settle_104 rfl ?_
    refine zr_iand h dX5_settle_105 ?_
    refine zr_iconst (v := (zI 1)) h dX5_settle_106 rfl ?_
    refine zr_icmp_ne (tgt := 121) h dX5_settle_107 (by decide) (fun c => ?_) (fun c => ?_)
    · have hk := zOk_t c hk
      refine zr_aload_n h dX5_settle_110 0 rfl rfl ?_
      refine zr_getR h zfo_X5_18 hq0 rfl dX5_settle_111 ?_
      refine zr_iload_n h dX5_settle_114 1 rfl rfl ?_
      refine zr_iload h dX5_settle_115 2 rfl ?_
      refine zr_callNm h zcw_X5_71 (by decide) (c_X11_joinLabels E (q + 3) 20 hq3 s.1 x3 s.2 _ (zOk_bind hk)) rfl rfl (Nat.le_of_ble_eq_true rfl) dX5_settle_117 (fun r_117 hk => ?_)
      refine zr_pop h dX5_settle_120 rfl ?_
      obtain ⟨x4_121, ex⟩ : ∃ y : Int32, y = s.2 + (zI 1) := ⟨_, rfl⟩
      have hk := zOk_bnd ex hk
      refine zr_iinc (v := x4_121) (L' := [(0, zrf E q), (3, .int x3), (4, .int x4_121)]) h 2 [1, 2, 0] dX5_settle_121 rfl (by rw [ex]; rfl) (by decide) rfl ?_
      refine zr_goto (tgt := 88) h dX5_settle_124 (by decide) ?_
      have hk := zOk_some hk
      exact zr_weak h [0, 1, 2] rfl hk
    · have hk := zOk_f c hk
      obtain ⟨x4_121, ex⟩ : ∃ y : Int32, y = s.2 + (zI 1) := ⟨_, rfl⟩
      have hk := zOk_bnd ex hk
      refine zr_iinc (v := x4_121) (L' := [(0, zrf E q), (3, .int x3), (4, .int x4_121)]) h 2 [1, 2, 0] dX5_settle_121 rfl (by rw [ex]; rfl) (by decide) rfl ?_
      refine zr_goto (tgt := 88) h dX5_settle_124 (by decide) ?_
      have hk := zOk_some hk
      exact zr_weak h [0, 1, 2] rfl hk
noncomputable def f_X5_settle_L77 (q : Nat) (s : (ZMem × Int32)) : Option ((ZMem × Int32) ⊕ (ZMem)) := if (zI 20) ≤ s.2 then some (.inr s.1) else zbnd (s.2 + (zI 1)) (fun x4_86 => zbind (zloop (f_X5_settle_L88 q s.2) (s.1, x4_86)) (fun e88 => zbnd (s.2 + (zI 1)) (fun x3_127 => some (.inl (e88, x3_127)))))
set_option maxRecDepth 100000 in
set_option maxHeartbeats 4000000 in
theorem w_X5_settle_L77 {E : ZEv} {G : ZG} {K : ZMem → Prop} (h : zRu lyC E G (zRv K) cX5_settle RX5 5 none 2) (q : Nat) (hq0 : lyC[q]? = some (.inr (5, [none, some (q + 1), some (q + 2), some (q + 3)]))) (hq1 : lyC[q + 1]? = some (.inl (0, 20))) (hq2 : lyC[q + 2]? = some (.inl (0, 20))) (hq3 : lyC[q + 3]? = some (.inl (0, 20))) (s : (ZMem × Int32)) (hk : zOk (zloop (f_X5_settle_L77 q) s) (fun e => G e 133 [] [])) : G s.1 77 [(0, zrf E q), (3, .int s.2)] [] := by
  refine zloop_walk (P := fun s => G s.1 77 [(0, zrf E q), (3, .int s.2)] []) hk (fun s hk => ?_)
  unfold f_X5_settle_L77 at hk
  refine zr_iload_n h dX5_settle_77 1 rfl rfl ?_
  refine zr_bipush (v := (zI 20)) h dX5_settle_78 (by decide) ?_
  refine zr_icmp_ge (tgt := 133) h dX5_settle_80 (by decide) (fun c => ?_) (fun c => ?_)
  · have hk := zOk_t c hk
    have hk := zOk_some hk
    exact zr_weak h [] rfl hk
  · have hk := zOk_f c hk
    refine zr_iload_n h dX5_settle_83 1 rfl rfl ?_
    refine zr_iconst (v := (zI 1)) h dX5_settle_84 rfl ?_
    refine zr_iadd h dX5_settle_85 ?_
    refine zr_topi (fun x4_86 ex => ?_)
    have hk := zOk_bnd ex hk
    refine zr_istore (L' := [(0, zrf E q), (3, .int s.2), (4, .int x4_86)]) h [1, 2, 0] dX5_settle_86 (by decide) rfl ?_
    refine w_X5_settle_L88 h q hq0 hq1 hq2 hq3 s.2 (s.1, x4_86) (zOk_mono (zOk_bind hk) (fun e88 hk => ?_))
    obtain ⟨x3_127, ex⟩ : ∃ y : Int32, y = s.2 + (zI 1) := ⟨_, rfl⟩
    have hk := zOk_bnd ex hk
    refine zr_iinc (v := x3_127) (L' := [(0, zrf E q), (3, .int x3_127)]) h 1 [1, 0] dX5_settle_127 rfl (by rw [ex]; rfl) (by decide) rfl ?_
    refine zr_goto (tgt := 77) h dX5_settle_130 (by decide) ?_
    have hk := zOk_some hk
    exact zr_weak h [0, 1] rfl hk
noncomputable def f_X5_settle (q : Nat) (M : ZMem) : Option ZMem := zchk (zcp (zI 0) (zI 0) (zI 20) 20 20) (zbnd (zstF M (q + 2) (va_cpy (M.1 (q + 1)) (M.1 (q + 2)) (zix (zI 0)) (zix (zI 0)) (zix (zI 20)))) (fun M_12 => zbind (zloop (f_X5_settle_L17 q) (M_12, (zI 0))) (fun e17 => zbind (f_X11_startLabels (q + 3) 20 e17) (fun M_72 => zbind (zloop (f_X5_settle_L77 q) (M_72, (zI 0))) (fun e77 => some e77)))))
set_option maxRecDepth 100000 in
set_option maxHeartbeats 4000000 in
theorem c_X5_settle (E : ZEv) (q : Nat) (hq0 : lyC[q]? = some (.inr (5, [none, some (q + 1), some (q + 2), some (q + 3)]))) (hq1 : lyC[q + 1]? = some (.inl (0, 20))) (hq2 : lyC[q + 2]? = some (.inl (0, 20))) (hq3 : lyC[q + 3]? = some (.inl (0, 20))) (M : ZMem) (K : ZMem → Prop) (hk : zOk (f_X5_settle q M) K) : zCon lyC E yX5_settle cX5_settle 5 none 2 [zrf E q, zrf E 3, zrf E 20] M (zRv K) := by
  refine zcon_of (L0 := [(0, zrf E q), (1, zrf E 3), (2, zrf E 20)]) (by decide) rfl (Nat.le_of_ble_eq_true rfl) (fun G h => ?_)
  have h : zRu lyC E G (zRv K) cX5_settle RX5 5 none 2 := h
  unfold f_X5_settle at hk
  refine zr_aload_n h dX5_settle_0 0 rfl rfl ?_
  refine zr_getR h zfo_X5_9 hq0 rfl dX5_settle_1 ?_
  refine zr_iconst (v := (zI 0)) h dX5_settle_4 rfl ?_
  refine zr_aload_n h dX5_settle_5 0 rfl rfl ?_
  refine zr_getR h zfo_X5_15 hq0 rfl dX5_settle_6 ?_
  refine zr_iconst (v := (zI 0)) h dX5_settle_9 rfl ?_
  refine zr_bipush (v := (zI 20)) h dX5_settle_10 (by decide) ?_
  have hb := zOk_chk hk
  have hk := hb.2
  refine zr_copyi h zac_X5_39 hq1 hq2 hb.1 (Nat.le_of_ble_eq_true rfl) dX5_settle_12 ?_
  refine zr_mem (fun M_12 eM => ?_)
  have hk := zOk_bnd eM hk
  refine zr_iconst (v := (zI 0)) h dX5_settle_15 rfl ?_
  refine zr_istore_n (L' := [(0, zrf E q), (1, zrf E 3), (2, zrf E 20), (3, .int (zI 0))]) h [1, 2, 3, 0] dX5_settle_16 rfl (by decide) rfl ?_
  refine w_X5_settle_L17 h q hq0 hq1 hq2 hq3 (M_12, (zI 0)) (zOk_mono (zOk_bind hk) (fun e17 hk => ?_))
  refine zr_aload_n h dX5_settle_68 0 rfl rfl ?_
  refine zr_getR h zfo_X5_18 hq0 rfl dX5_settle_69 ?_
  refine zr_callNv h zcw_X5_67 (by decide) (c_X11_startLabels E (q + 3) 20 hq3 e17 _ (zOk_bind hk)) rfl rfl (Nat.le_of_ble_eq_true rfl) dX5_settle_72 (fun M_72 hk => ?_)
  refine zr_iconst (v := (zI 0)) h dX5_settle_75 rfl ?_
  refine zr_istore_n (L' := [(0, zrf E q), (3, .int (zI 0))]) h [1, 0] dX5_settle_76 rfl (by decide) rfl ?_
  refine w_X5_settle_L77 h q hq0 hq1 hq2 hq3 (M_72, (zI 0)) (zOk_mono (zOk_bind hk) (fun e77 hk => ?_))
  have hk := zOk_some hk
  exact zr_vret h dX5_settle_133 ⟨rfl, hk⟩
theorem dX5_twos_0 : decode cX5_twos 0 = .ok (.iconst 0, 1) := by decide +kernel
theorem dX5_twos_1 : decode cX5_twos 1 = .ok (.istore_n 1, 1) := by decide +kernel
theorem dX5_twos_2 : decode cX5_twos 2 = .ok (.iconst 0, 1) := by decide +kernel
theorem dX5_twos_3 : decode cX5_twos 3 = .ok (.istore_n 2, 1) := by decide +kernel
theorem dX5_twos_4 : decode cX5_twos 4 = .ok (.iload_n 2, 1) := by decide +kernel
theorem dX5_twos_5 : decode cX5_twos 5 = .ok (.bipush 20, 2) := by decide +kernel
theorem dX5_twos_7 : decode cX5_twos 7 = .ok (.if_icmp .ge 21, 3) := by decide +kernel
theorem dX5_twos_10 : decode cX5_twos 10 = .ok (.iload_n 1, 1) := by decide +kernel
theorem dX5_twos_11 : decode cX5_twos 11 = .ok (.aload_n 0, 1) := by decide +kernel
theorem dX5_twos_12 : decode cX5_twos 12 = .ok (.getfield 15, 3) := by decide +kernel
theorem dX5_twos_15 : decode cX5_twos 15 = .ok (.iload_n 2, 1) := by decide +kernel
theorem dX5_twos_16 : decode cX5_twos 16 = .ok (.iaload, 1) := by decide +kernel
theorem dX5_twos_17 : decode cX5_twos 17 = .ok (.invokestatic 75, 3) := by decide +kernel
theorem dX5_twos_20 : decode cX5_twos 20 = .ok (.iadd, 1) := by decide +kernel
theorem dX5_twos_21 : decode cX5_twos 21 = .ok (.istore_n 1, 1) := by decide +kernel
theorem dX5_twos_22 : decode cX5_twos 22 = .ok (.iinc 2 1, 3) := by decide +kernel
theorem dX5_twos_25 : decode cX5_twos 25 = .ok (.goto (-21), 3) := by decide +kernel
theorem dX5_twos_28 : decode cX5_twos 28 = .ok (.iload_n 1, 1) := by decide +kernel
theorem dX5_twos_29 : decode cX5_twos 29 = .ok (.iconst 2, 1) := by decide +kernel
theorem dX5_twos_30 : decode cX5_twos 30 = .ok (.idiv, 1) := by decide +kernel
theorem dX5_twos_31 : decode cX5_twos 31 = .ok (.ireturn, 1) := by decide +kernel
noncomputable def f_X5_twos_L4 (q : Nat) (M : ZMem) (s : (Int32 × Int32)) : Option ((Int32 × Int32) ⊕ (Int32)) := if (zI 20) ≤ s.2 then some (.inr s.1) else zchk (zin s.2 20) (zbind (f_J6_bitCount_0f7a4 M (M.1 (q + 2) (zix s.2))) (fun r_17 => zbnd (s.1 + r_17) (fun x1_21 => zbnd (s.2 + (zI 1)) (fun x2_22 => some (.inl (x1_21, x2_22))))))
set_option maxRecDepth 100000 in
set_option maxHeartbeats 4000000 in
theorem w_X5_twos_L4 {E : ZEv} {G : ZG} {K : Int32 → Prop} (M : ZMem) (h : zRu lyC E G (zRp M K) cX5_twos RX5 3 (some .int) 1) (q : Nat) (hq0 : lyC[q]? = some (.inr (5, [none, some (q + 1), some (q + 2), some (q + 3)]))) (hq1 : lyC[q + 1]? = some (.inl (0, 20))) (hq2 : lyC[q + 2]? = some (.inl (0, 20))) (hq3 : lyC[q + 3]? = some (.inl (0, 20))) (s : (Int32 × Int32)) (hk : zOk (zloop (f_X5_twos_L4 q M) s) (fun e => G M 28 [(1, .int e)] [])) : G M 4 [(0, zrf E q), (1, .int s.1), (2, .int s.2)] [] := by
  refine zloop_walk (P := fun s => G M 4 [(0, zrf E q), (1, .int s.1), (2, .int s.2)] []) hk (fun s hk => ?_)
  unfold f_X5_twos_L4 at hk
  refine zr_iload_n h dX5_twos_4 2 rfl rfl ?_
  refine zr_bipush (v := (zI 20)) h dX5_twos_5 (by decide) ?_
  refine zr_icmp_ge (tgt := 28) h dX5_twos_7 (by decide) (fun c => ?_) (fun c => ?_)
  · have hk := zOk_t c hk
    have hk := zOk_some hk
    exact zr_weak h [1] rfl hk
  · have hk := zOk_f c hk
    refine zr_iload_n h dX5_twos_10 1 rfl rfl ?_
    refine zr_aload_n h dX5_twos_11 0 rfl rfl ?_
    refine zr_getR h zfo_X5_15 hq0 rfl dX5_twos_12 ?_
    refine zr_iload_n h dX5_twos_15 2 rfl rfl ?_
    have hb := zOk_chk hk
    have hk := hb.2
    refine zr_iald h hq2 hb.1 dX5_twos_16 ?_
    refine zr_callSp h zcw_X5_75 (by decide) (c_J6_bitCount_0f7a4 E M (M.1 (q + 2) (zix s.2)) _ (zOk_bind hk)) rfl rfl (Nat.le_of_ble_eq_true rfl) dX5_twos_17 (fun r_17 hk => ?_)
    refine zr_iadd h dX5_twos_20 ?_
    refine zr_topi (fun x1_21 ex => ?_)
    have hk := zOk_bnd ex hk
    refine zr_istore_n (L' := [(0, zrf E q), (1, .int x1_21), (2, .int s.2)]) h [1, 0, 2] dX5_twos_21 rfl (by decide) rfl ?_
    obtain ⟨x2_22, ex⟩ : ∃ y : Int32, y = s.2 + (zI 1) := ⟨_, rfl⟩
    have hk := zOk_bnd ex hk
    refine zr_iinc (v := x2_22) (L' := [(0, zrf E q), (1, .int x1_21), (2, .int x2_22)]) h 2 [1, 2, 0] dX5_twos_22 rfl (by rw [ex]; rfl) (by decide) rfl ?_
    refine zr_goto (tgt := 4) h dX5_twos_25 (by decide) ?_
    have hk := zOk_some hk
    exact zr_weak h [0, 1, 2] rfl hk
noncomputable def f_X5_twos (q : Nat) (M : ZMem) : Option Int32 := zbind (zloop (f_X5_twos_L4 q M) ((zI 0), (zI 0))) (fun e4 => some (e4 / (zI 2)))
set_option maxRecDepth 100000 in
set_option maxHeartbeats 4000000 in
theorem c_X5_twos (E : ZEv) (q : Nat) (hq0 : lyC[q]? = some (.inr (5, [none, some (q + 1), some (q + 2), some (q + 3)]))) (hq1 : lyC[q + 1]? = some (.inl (0, 20))) (hq2 : lyC[q + 2]? = some (.inl (0, 20))) (hq3 : lyC[q + 3]? = some (.inl (0, 20))) (M : ZMem) (K : Int32 → Prop) (hk : zOk (f_X5_twos q M) K) : zCon lyC E yX5_twos cX5_twos 3 (some .int) 1 [zrf E q] M (zRp M K) := by
  refine zcon_of (L0 := [(0, zrf E q)]) (by decide) rfl (Nat.le_of_ble_eq_true rfl) (fun G h => ?_)
  have h : zRu lyC E G (zRp M K) cX5_twos RX5 3 (some .int) 1 := h
  unfold f_X5_twos at hk
  refine zr_iconst (v := (zI 0)) h dX5_twos_0 rfl ?_
  refine zr_istore_n (L' := [(0, zrf E q), (1, .int (zI 0))]) h [1, 0] dX5_twos_1 rfl (by decide) rfl ?_
  refine zr_iconst (v := (zI 0)) h dX5_twos_2 rfl ?_
  refine zr_istore_n (L' := [(0, zrf E q), (1, .int (zI 0)), (2, .int (zI 0))]) h [1, 2, 0] dX5_twos_3 rfl (by decide) rfl ?_
  refine w_X5_twos_L4 M h q hq0 hq1 hq2 hq3 ((zI 0), (zI 0)) (zOk_mono (zOk_bind hk) (fun e4 hk => ?_))
  refine zr_iload_n h dX5_twos_28 0 rfl rfl ?_
  refine zr_iconst (v := (zI 2)) h dX5_twos_29 rfl ?_
  refine zr_idiv h dX5_twos_30 (by decide) ?_
  have hk := zOk_some hk
  exact zr_iret h dX5_twos_31 ⟨rfl, _, rfl, hk⟩
theorem dX5_groups_0 : decode cX5_groups 0 = .ok (.iconst 0, 1) := by decide +kernel
theorem dX5_groups_1 : decode cX5_groups 1 = .ok (.istore_n 2, 1) := by decide +kernel
theorem dX5_groups_2 : decode cX5_groups 2 = .ok (.iconst 0, 1) := by decide +kernel
theorem dX5_groups_3 : decode cX5_groups 3 = .ok (.istore_n 3, 1) := by decide +kernel
theorem dX5_groups_4 : decode cX5_groups 4 = .ok (.iload_n 3, 1) := by decide +kernel
theorem dX5_groups_5 : decode cX5_groups 5 = .ok (.bipush 20, 2) := by decide +kernel
theorem dX5_groups_7 : decode cX5_groups 7 = .ok (.if_icmp .ge 35, 3) := by decide +kernel
theorem dX5_groups_10 : decode cX5_groups 10 = .ok (.iload_n 2, 1) := by decide +kernel
theorem dX5_groups_11 : decode cX5_groups 11 = .ok (.aload_n 1, 1) := by decide +kernel
theorem dX5_groups_12 : decode cX5_groups 12 = .ok (.iload_n 3, 1) := by decide +kernel
theorem dX5_groups_13 : decode cX5_groups 13 = .ok (.invokevirtual 80, 3) := by decide +kernel
theorem dX5_groups_16 : decode cX5_groups 16 = .ok (.ifCond .eq 17, 3) := by decide +kernel
theorem dX5_groups_19 : decode cX5_groups 19 = .ok (.aload_n 0, 1) := by decide +kernel
theorem dX5_groups_20 : decode cX5_groups 20 = .ok (.getfield 18, 3) := by decide +kernel
theorem dX5_groups_23 : decode cX5_groups 23 = .ok (.iload_n 3, 1) := by decide +kernel
theorem dX5_groups_24 : decode cX5_groups 24 = .ok (.iaload, 1) := by decide +kernel
theorem dX5_groups_25 : decode cX5_groups 25 = .ok (.iload_n 3, 1) := by decide +kernel
theorem dX5_groups_26 : decode cX5_groups 26 = .ok (.if_icmp .ne 7, 3) := by decide +kernel
theorem dX5_groups_29 : decode cX5_groups 29 = .ok (.iconst 1, 1) := by decide +kernel
theorem dX5_groups_30 : decode cX5_groups 30 = .ok (.goto 4, 3) := by decide +kernel
theorem dX5_groups_33 : decode cX5_groups 33 = .ok (.iconst 0, 1) := by decide +kernel
theorem dX5_groups_34 : decode cX5_groups 34 = .ok (.iadd, 1) := by decide +kernel
theorem dX5_groups_35 : decode cX5_groups 35 = .ok (.istore_n 2, 1) := by decide +kernel
theorem dX5_groups_36 : decode cX5_groups 36 = .ok (.iinc 3 1, 3) := by decide +kernel
theorem dX5_groups_39 : decode cX5_groups 39 = .ok (.goto (-35), 3) := by decide +kernel
theorem dX5_groups_42 : decode cX5_groups 42 = .ok (.iload_n 2, 1) := by decide +kernel
theorem dX5_groups_43 : decode cX5_groups 43 = .ok (.ireturn, 1) := by decide +kernel
noncomputable def f_X5_groups_L4 (q : Nat) (M : ZMem) (s : (Int32 × Int32)) : Option ((Int32 × Int32) ⊕ (Int32)) := if (zI 20) ≤ s.2 then some (.inr s.1) else zbind (f_X0_isSign M s.2) (fun r_13 => if r_13 = (zI 0) then zbnd (s.1 + (zI 0)) (fun x2_35 => zbnd (s.2 + (zI 1)) (fun x3_36 => some (.inl (x2_35, x3_36)))) else zchk (zin s.2 20) (if (M.1 (q + 3) (zix s.2)) = s.2 then zbnd (s.1 + (zI 1)) (fun x2_35 => zbnd (s.2 + (zI 1)) (fun x3_36 => some (.inl (x2_35, x3_36)))) else zbnd (s.1 + (zI 0)) (fun x2_35 => zbnd (s.2 + (zI 1)) (fun x3_36 => some (.inl (x2_35, x3_36))))))
set_option maxRecDepth 100000 in
set_option maxHeartbeats 4000000 in
theorem w_X5_groups_L4 {E : ZEv} {G : ZG} {K : Int32 → Prop} (M : ZMem) (h : zRu lyC E G (zRp M K) cX5_groups RX5 4 (some .int) 2) (q : Nat) (hq0 : lyC[q]? = some (.inr (5, [none, some (q + 1), some (q + 2), some (q + 3)]))) (hq1 : lyC[q + 1]? = some (.inl (0, 20))) (hq2 : lyC[q + 2]? = some (.inl (0, 20))) (hq3 : lyC[q + 3]? = some (.inl (0, 20))) (s : (Int32 × Int32)) (hk : zOk (zloop (f_X5_groups_L4 q M) s) (fun e => G M 42 [(2, .int e)] [])) : G M 4 [(0, zrf E q), (1, zrf E 3), (2, .int s.1), (3, .int s.2)] [] := by
  refine zloop_walk (P := fun s => G M 4 [(0, zrf E q), (1, zrf E 3), (2, .int s.1), (3, .int s.2)] []) hk (fun s hk => ?_)
  unfold f_X5_groups_L4 at hk
  refine zr_iload_n h dX5_groups_4 3 rfl rfl ?_
  refine zr_bipush (v := (zI 20)) h dX5_groups_5 (by decide) ?_
  refine zr_icmp_ge (tgt := 42) h dX5_groups_7 (by decide) (fun c => ?_) (fun c => ?_)
  · have hk := zOk_t c hk
    have hk := zOk_some hk
    exact zr_weak h [2] rfl hk
  · have hk := zOk_f c hk
    refine zr_iload_n h dX5_groups_10 2 rfl rfl ?_
    refine zr_aload_n h dX5_groups_11 1 rfl rfl ?_
    refine zr_iload_n h dX5_groups_12 3 rfl rfl ?_
    refine zr_callVp h lC_3 zcw_X5_80 (by decide) (c_X0_isSign E M s.2 _ (zOk_bind hk)) rfl rfl (Nat.le_of_ble_eq_true rfl) dX5_groups_13 (fun r_13 hk => ?_)
    refine zr_if_eq (tgt := 33) h dX5_groups_16 (by decide) (fun c => ?_) (fun c => ?_)
    · have hk := zOk_t c hk
      refine zr_iconst (v := (zI 0)) h dX5_groups_33 rfl ?_
      refine zr_iadd h dX5_groups_34 ?_
      refine zr_topi (fun x2_35 ex => ?_)
      have hk := zOk_bnd ex hk
      refine zr_istore_n (L' := [(0, zrf E q), (1, zrf E 3), (2, .int x2_35), (3, .int s.2)]) h [1, 2, 0, 3] dX5_groups_35 rfl (by decide) rfl ?_
      obtain ⟨x3_36, ex⟩ : ∃ y : Int32, y = s.2 + (zI 1) := ⟨_, rfl⟩
      have hk := zOk_bnd ex hk
      refine zr_iinc (v := x3_36) (L' := [(0, zrf E q), (1, zrf E 3), (2, .int x2_35), (3, .int x3_36)]) h 3 [1, 2, 3, 0] dX5_groups_36 rfl (by rw [ex]; rfl) (by decide) rfl ?_
      refine zr_goto (tgt := 4) h dX5_groups_39 (by decide) ?_
      have hk := zOk_some hk
      exact zr_weak h [0, 1, 2, 3] rfl hk
    · have hk := zOk_f c hk
      refine zr_aload_n h dX5_groups_19 0 rfl rfl ?_
      refine zr_getR h zfo_X5_18 hq0 rfl dX5_groups_20 ?_
      refine zr_iload_n h dX5_groups_23 3 rfl rfl ?_
      have hb := zOk_chk hk
      have hk := hb.2
      refine zr_iald h hq3 hb.1 dX5_groups_24 ?_
      refine zr_iload_n h dX5_groups_25 3 rfl rfl ?_
      refine zr_icmp_ne (tgt := 33) h dX5_groups_26 (by decide) (fun c => ?_) (fun c => ?_)
      · have hk := zOk_t c hk
        refine zr_iconst (v := (zI 1)) h dX5_groups_29 rfl ?_
        refine zr_goto (tgt := 34) h dX5_groups_30 (by decide) ?_
        refine zr_iadd h dX5_groups_34 ?_
        refine zr_topi (fun x2_35 ex => ?_)
        have hk := zOk_bnd ex hk
        refine zr_istore_n (L' := [(0, zrf E q), (1, zrf E 3), (2, .int x2_35), (3, .int s.2)]) h [1, 2, 0, 3] dX5_groups_35 rfl (by decide) rfl ?_
        obtain ⟨x3_36, ex⟩ : ∃ y : Int32, y = s.2 + (zI 1) := ⟨_, rfl⟩
        have hk := zOk_bnd ex hk
        refine zr_iinc (v := x3_36) (L' := [(0, zrf E q), (1, zrf E 3), (2, .int x2_35), (3, .int x3_36)]) h 3 [1, 2, 3, 0] dX5_groups_36 rfl (by rw [ex]; rfl) (by decide) rfl ?_
        refine zr_goto (tgt := 4) h dX5_groups_39 (by decide) ?_
        have hk := zOk_some hk
        exact zr_weak h [0, 1, 2, 3] rfl hk
      · have hk := zOk_f c hk
        refine zr_iconst (v := (zI 0)) h dX5_groups_33 rfl ?_
        refine zr_iadd h dX5_groups_34 ?_
        refine zr_topi (fun x2_35 ex => ?_)
        have hk := zOk_bnd ex hk
        refine zr_istore_n (L' := [(0, zrf E q), (1, zrf E 3), (2, .int x2_35), (3, .int s.2)]) h [1, 2, 0, 3] dX5_groups_35 rfl (by decide) rfl ?_
        obtain ⟨x3_36, ex⟩ : ∃ y : Int32, y = s.2 + (zI 1) := ⟨_, rfl⟩
        have hk := zOk_bnd ex hk
        refine zr_iinc (v := x3_36) (L' := [(0, zrf E q), (1, zrf E 3), (2, .int x2_35), (3, .int x3_36)]) h 3 [1, 2, 3, 0] dX5_groups_36 rfl (by rw [ex]; rfl) (by decide) rfl ?_
        refine zr_goto (tgt := 4) h dX5_groups_39 (by decide) ?_
        have hk := zOk_some hk
        exact zr_weak h [0, 1, 2, 3] rfl hk
noncomputable def f_X5_groups (q : Nat) (M : ZMem) : Option Int32 := zbind (zloop (f_X5_groups_L4 q M) ((zI 0), (zI 0))) (fun e4 => some e4)
set_option maxRecDepth 100000 in
set_option maxHeartbeats 4000000 in
theorem c_X5_groups (E : ZEv) (q : Nat) (hq0 : lyC[q]? = some (.inr (5, [none, some (q + 1), some (q + 2), some (q + 3)]))) (hq1 : lyC[q + 1]? = some (.inl (0, 20))) (hq2 : lyC[q + 2]? = some (.inl (0, 20))) (hq3 : lyC[q + 3]? = some (.inl (0, 20))) (M : ZMem) (K : Int32 → Prop) (hk : zOk (f_X5_groups q M) K) : zCon lyC E yX5_groups cX5_groups 4 (some .int) 2 [zrf E q, zrf E 3] M (zRp M K) := by
  refine zcon_of (L0 := [(0, zrf E q), (1, zrf E 3)]) (by decide) rfl (Nat.le_of_ble_eq_true rfl) (fun G h => ?_)
  have h : zRu lyC E G (zRp M K) cX5_groups RX5 4 (some .int) 2 := h
  unfold f_X5_groups at hk
  refine zr_iconst (v := (zI 0)) h dX5_groups_0 rfl ?_
  refine zr_istore_n (L' := [(0, zrf E q), (1, zrf E 3), (2, .int (zI 0))]) h [1, 2, 0] dX5_groups_1 rfl (by decide) rfl ?_
  refine zr_iconst (v := (zI 0)) h dX5_groups_2 rfl ?_
  refine zr_istore_n (L' := [(0, zrf E q), (1, zrf E 3), (2, .int (zI 0)), (3, .int (zI 0))]) h [1, 2, 3, 0] dX5_groups_3 rfl (by decide) rfl ?_
  refine w_X5_groups_L4 M h q hq0 hq1 hq2 hq3 ((zI 0), (zI 0)) (zOk_mono (zOk_bind hk) (fun e4 hk => ?_))
  refine zr_iload_n h dX5_groups_42 0 rfl rfl ?_
  have hk := zOk_some hk
  exact zr_iret h dX5_groups_43 ⟨rfl, _, rfl, hk⟩
theorem dX5_labelOf_0 : decode cX5_labelOf 0 = .ok (.iload_n 1, 1) := by decide +kernel
theorem dX5_labelOf_1 : decode cX5_labelOf 1 = .ok (.invokestatic 35, 3) := by decide +kernel
theorem dX5_labelOf_4 : decode cX5_labelOf 4 = .ok (.ifCond .eq 12, 3) := by decide +kernel
theorem dX5_labelOf_7 : decode cX5_labelOf 7 = .ok (.aload_n 0, 1) := by decide +kernel
theorem dX5_labelOf_8 : decode cX5_labelOf 8 = .ok (.getfield 18, 3) := by decide +kernel
theorem dX5_labelOf_11 : decode cX5_labelOf 11 = .ok (.iload_n 1, 1) := by decide +kernel
theorem dX5_labelOf_12 : decode cX5_labelOf 12 = .ok (.iaload, 1) := by decide +kernel
theorem dX5_labelOf_13 : decode cX5_labelOf 13 = .ok (.goto 4, 3) := by decide +kernel
theorem dX5_labelOf_16 : decode cX5_labelOf 16 = .ok (.iconst (-1), 1) := by decide +kernel
theorem dX5_labelOf_17 : decode cX5_labelOf 17 = .ok (.ireturn, 1) := by decide +kernel
noncomputable def f_X5_labelOf (q : Nat) (M : ZMem) (x1 : Int32) : Option Int32 := zbind (f_X5_isPlace M x1) (fun r_1 => if r_1 = (zI 0) then some (zI (-1)) else zchk (zin x1 20) (some (M.1 (q + 3) (zix x1))))
set_option maxRecDepth 100000 in
set_option maxHeartbeats 4000000 in
theorem c_X5_labelOf (E : ZEv) (q : Nat) (hq0 : lyC[q]? = some (.inr (5, [none, some (q + 1), some (q + 2), some (q + 3)]))) (hq1 : lyC[q + 1]? = some (.inl (0, 20))) (hq2 : lyC[q + 2]? = some (.inl (0, 20))) (hq3 : lyC[q + 3]? = some (.inl (0, 20))) (M : ZMem) (x1 : Int32) (K : Int32 → Prop) (hk : zOk (f_X5_labelOf q M x1) K) : zCon lyC E yX5_labelOf cX5_labelOf 2 (some .int) 1 [zrf E q, .int x1] M (zRp M K) := by
  refine zcon_of (L0 := [(0, zrf E q), (1, .int x1)]) (by decide) rfl (Nat.le_of_ble_eq_true rfl) (fun G h => ?_)
  have h : zRu lyC E G (zRp M K) cX5_labelOf RX5 2 (some .int) 1 := h
  unfold f_X5_labelOf at hk
  refine zr_iload_n h dX5_labelOf_0 1 rfl rfl ?_
  refine zr_callSp h zcw_X5_35 (by decide) (c_X5_isPlace E M x1 _ (zOk_bind hk)) rfl rfl (Nat.le_of_ble_eq_true rfl) dX5_labelOf_1 (fun r_1 hk => ?_)
  refine zr_if_eq (tgt := 16) h dX5_labelOf_4 (by decide) (fun c => ?_) (fun c => ?_)
  · have hk := zOk_t c hk
    refine zr_iconst (v := (zI (-1))) h dX5_labelOf_16 rfl ?_
    have hk := zOk_some hk
    exact zr_iret h dX5_labelOf_17 ⟨rfl, _, rfl, hk⟩
  · have hk := zOk_f c hk
    refine zr_aload_n h dX5_labelOf_7 0 rfl rfl ?_
    refine zr_getR h zfo_X5_18 hq0 rfl dX5_labelOf_8 ?_
    refine zr_iload_n h dX5_labelOf_11 1 rfl rfl ?_
    have hb := zOk_chk hk
    have hk := hb.2
    refine zr_iald h hq3 hb.1 dX5_labelOf_12 ?_
    refine zr_goto (tgt := 17) h dX5_labelOf_13 (by decide) ?_
    have hk := zOk_some hk
    exact zr_iret h dX5_labelOf_17 ⟨rfl, _, rfl, hk⟩
theorem dX5_together_0 : decode cX5_together 0 = .ok (.iload_n 1, 1) := by decide +kernel
theorem dX5_together_1 : decode cX5_together 1 = .ok (.invokestatic 35, 3) := by decide +kernel
theorem dX5_together_4 : decode cX5_together 4 = .ok (.ifCond .eq 29, 3) := by decide +kernel
theorem dX5_together_7 : decode cX5_together 7 = .ok (.iload_n 2, 1) := by decide +kernel
theorem dX5_together_8 : decode cX5_together 8 = .ok (.invokestatic 35, 3) := by decide +kernel
theorem dX5_together_11 : decode cX5_together 11 = .ok (.ifCond .eq 22, 3) := by decide +kernel
theorem dX5_together_14 : decode cX5_together 14 = .ok (.aload_n 0, 1) := by decide +kernel
theorem dX5_together_15 : decode cX5_together 15 = .ok (.getfield 18, 3) := by decide +kernel
theorem dX5_together_18 : decode cX5_together 18 = .ok (.iload_n 1, 1) := by decide +kernel
theorem dX5_together_19 : decode cX5_together 19 = .ok (.iaload, 1) := by decide +kernel
theorem dX5_together_20 : decode cX5_together 20 = .ok (.aload_n 0, 1) := by decide +kernel
theorem dX5_together_21 : decode cX5_together 21 = .ok (.getfield 18, 3) := by decide +kernel
theorem dX5_together_24 : decode cX5_together 24 = .ok (.iload_n 2, 1) := by decide +kernel
theorem dX5_together_25 : decode cX5_together 25 = .ok (.iaload, 1) := by decide +kernel
theorem dX5_together_26 : decode cX5_together 26 = .ok (.if_icmp .ne 7, 3) := by decide +kernel
theorem dX5_together_29 : decode cX5_together 29 = .ok (.iconst 1, 1) := by decide +kernel
theorem dX5_together_30 : decode cX5_together 30 = .ok (.goto 4, 3) := by decide +kernel
theorem dX5_together_33 : decode cX5_together 33 = .ok (.iconst 0, 1) := by decide +kernel
theorem dX5_together_34 : decode cX5_together 34 = .ok (.ireturn, 1) := by decide +kernel
noncomputable def f_X5_together (q : Nat) (M : ZMem) (x1 : Int32) (x2 : Int32) : Option Int32 := zbind (f_X5_isPlace M x1) (fun r_1 => if r_1 = (zI 0) then some (zI 0) else zbind (f_X5_isPlace M x2) (fun r_8 => if r_8 = (zI 0) then some (zI 0) else zchk (zin x1 20) (zchk (zin x2 20) (if (M.1 (q + 3) (zix x1)) = (M.1 (q + 3) (zix x2)) then some (zI 1) else some (zI 0)))))
set_option maxRecDepth 100000 in
set_option maxHeartbeats 4000000 in
theorem c_X5_together (E : ZEv) (q : Nat) (hq0 : lyC[q]? = some (.inr (5, [none, some (q + 1), some (q + 2), some (q + 3)]))) (hq1 : lyC[q + 1]? = some (.inl (0, 20))) (hq2 : lyC[q + 2]? = some (.inl (0, 20))) (hq3 : lyC[q + 3]? = some (.inl (0, 20))) (M : ZMem) (x1 : Int32) (x2 : Int32) (K : Int32 → Prop) (hk : zOk (f_X5_together q M x1 x2) K) : zCon lyC E yX5_together cX5_together 3 (some .boolean) 1 [zrf E q, .int x1, .int x2] M (zRp M K) := by
  refine zcon_of (L0 := [(0, zrf E q), (1, .int x1), (2, .int x2)]) (by decide) rfl (Nat.le_of_ble_eq_true rfl) (fun G h => ?_)
  have h : zRu lyC E G (zRp M K) cX5_together RX5 3 (some .boolean) 1 := h
  unfold f_X5_together at hk
  refine zr_iload_n h dX5_together_0 1 rfl rfl ?_
  refine zr_callSp h zcw_X5_35 (by decide) (c_X5_isPlace E M x1 _ (zOk_bind hk)) rfl rfl (Nat.le_of_ble_eq_true rfl) dX5_together_1 (fun r_1 hk => ?_)
  refine zr_if_eq (tgt := 33) h dX5_together_4 (by decide) (fun c => ?_) (fun c => ?_)
  · have hk := zOk_t c hk
    refine zr_iconst (v := (zI 0)) h dX5_together_33 rfl ?_
    have hk := zOk_some hk
    exact zr_zret h dX5_together_34 (by decide) ⟨rfl, _, rfl, hk⟩
  · have hk := zOk_f c hk
    refine zr_iload_n h dX5_together_7 2 rfl rfl ?_
    refine zr_callSp h zcw_X5_35 (by decide) (c_X5_isPlace E M x2 _ (zOk_bind hk)) rfl rfl (Nat.le_of_ble_eq_true rfl) dX5_together_8 (fun r_8 hk => ?_)
    refine zr_if_eq (tgt := 33) h dX5_together_11 (by decide) (fun c => ?_) (fun c => ?_)
    · have hk := zOk_t c hk
      refine zr_iconst (v := (zI 0)) h dX5_together_33 rfl ?_
      have hk := zOk_some hk
      exact zr_zret h dX5_together_34 (by decide) ⟨rfl, _, rfl, hk⟩
    · have hk := zOk_f c hk
      refine zr_aload_n h dX5_together_14 0 rfl rfl ?_
      refine zr_getR h zfo_X5_18 hq0 rfl dX5_together_15 ?_
      refine zr_iload_n h dX5_together_18 1 rfl rfl ?_
      have hb := zOk_chk hk
      have hk := hb.2
      refine zr_iald h hq3 hb.1 dX5_together_19 ?_
      refine zr_aload_n h dX5_together_20 0 rfl rfl ?_
      refine zr_getR h zfo_X5_18 hq0 rfl dX5_together_21 ?_
      refine zr_iload_n h dX5_together_24 2 rfl rfl ?_
      have hb := zOk_chk hk
      have hk := hb.2
      refine zr_iald h hq3 hb.1 dX5_together_25 ?_
      refine zr_icmp_ne (tgt := 33) h dX5_together_26 (by decide) (fun c => ?_) (fun c => ?_)
      · have hk := zOk_t c hk
        refine zr_iconst (v := (zI 1)) h dX5_together_29 rfl ?_
        refine zr_goto (tgt := 34) h dX5_together_30 (by decide) ?_
        have hk := zOk_some hk
        exact zr_zret h dX5_together_34 (by decide) ⟨rfl, _, rfl, hk⟩
      · have hk := zOk_f c hk
        refine zr_iconst (v := (zI 0)) h dX5_together_33 rfl ?_
        have hk := zOk_some hk
        exact zr_zret h dX5_together_34 (by decide) ⟨rfl, _, rfl, hk⟩
theorem dX5_stepsBetween_0 : decode cX5_stepsBetween 0 = .ok (.iconst 1, 1) := by decide +kernel
theorem dX5_stepsBetween_1 : decode cX5_stepsBetween 1 = .ok (.iload_n 1, 1) := by decide +kernel
theorem dX5_stepsBetween_2 : decode cX5_stepsBetween 2 = .ok (.ishl, 1) := by decide +kernel
theorem dX5_stepsBetween_3 : decode cX5_stepsBetween 3 = .ok (.istore_n 3, 1) := by decide +kernel
theorem dX5_stepsBetween_4 : decode cX5_stepsBetween 4 = .ok (.iconst 0, 1) := by decide +kernel
theorem dX5_stepsBetween_5 : decode cX5_stepsBetween 5 = .ok (.istore 4, 2) := by decide +kernel
theorem dX5_stepsBetween_7 : decode cX5_stepsBetween 7 = .ok (.iload 4, 2) := by decide +kernel
theorem dX5_stepsBetween_9 : decode cX5_stepsBetween 9 = .ok (.bipush 20, 2) := by decide +kernel
theorem dX5_stepsBetween_11 : decode cX5_stepsBetween 11 = .ok (.if_icmp .ge 65, 3) := by decide +kernel
theorem dX5_stepsBetween_14 : decode cX5_stepsBetween 14 = .ok (.iload_n 3, 1) := by decide +kernel
theorem dX5_stepsBetween_15 : decode cX5_stepsBetween 15 = .ok (.iload_n 2, 1) := by decide +kernel
theorem dX5_stepsBetween_16 : decode cX5_stepsBetween 16 = .ok (.iushr, 1) := by decide +kernel
theorem dX5_stepsBetween_17 : decode cX5_stepsBetween 17 = .ok (.iconst 1, 1) := by decide +kernel
theorem dX5_stepsBetween_18 : decode cX5_stepsBetween 18 = .ok (.iand, 1) := by decide +kernel
theorem dX5_stepsBetween_19 : decode cX5_stepsBetween 19 = .ok (.ifCond .ne 57, 3) := by decide +kernel
theorem dX5_stepsBetween_22 : decode cX5_stepsBetween 22 = .ok (.iload_n 3, 1) := by decide +kernel
theorem dX5_stepsBetween_23 : decode cX5_stepsBetween 23 = .ok (.istore 5, 2) := by decide +kernel
theorem dX5_stepsBetween_25 : decode cX5_stepsBetween 25 = .ok (.iconst 0, 1) := by decide +kernel
theorem dX5_stepsBetween_26 : decode cX5_stepsBetween 26 = .ok (.istore 6, 2) := by decide +kernel
theorem dX5_stepsBetween_28 : decode cX5_stepsBetween 28 = .ok (.iload 6, 2) := by decide +kernel
theorem dX5_stepsBetween_30 : decode cX5_stepsBetween 30 = .ok (.bipush 20, 2) := by decide +kernel
theorem dX5_stepsBetween_32 : decode cX5_stepsBetween 32 = .ok (.if_icmp .ge 35, 3) := by decide +kernel
theorem dX5_stepsBetween_35 : decode cX5_stepsBetween 35 = .ok (.iload 5, 2) := by decide +kernel
theorem dX5_stepsBetween_37 : decode cX5_stepsBetween 37 = .ok (.iload_n 3, 1) := by decide +kernel
theorem dX5_stepsBetween_38 : decode cX5_stepsBetween 38 = .ok (.iload 6, 2) := by decide +kernel
theorem dX5_stepsBetween_40 : decode cX5_stepsBetween 40 = .ok (.iushr, 1) := by decide +kernel
theorem dX5_stepsBetween_41 : decode cX5_stepsBetween 41 = .ok (.iconst 1, 1) := by decide +kernel
theorem dX5_stepsBetween_42 : decode cX5_stepsBetween 42 = .ok (.iand, 1) := by decide +kernel
theorem dX5_stepsBetween_43 : decode cX5_stepsBetween 43 = .ok (.iconst 1, 1) := by decide +kernel
theorem dX5_stepsBetween_44 : decode cX5_stepsBetween 44 = .ok (.if_icmp .ne 13, 3) := by decide +kernel
theorem dX5_stepsBetween_47 : decode cX5_stepsBetween 47 = .ok (.aload_n 0, 1) := by decide +kernel
theorem dX5_stepsBetween_48 : decode cX5_stepsBetween 48 = .ok (.getfield 15, 3) := by decide +kernel
theorem dX5_stepsBetween_51 : decode cX5_stepsBetween 51 = .ok (.iload 6, 2) := by decide +kernel
theorem dX5_stepsBetween_53 : decode cX5_stepsBetween 53 = .ok (.iaload, 1) := by decide +kernel
theorem dX5_stepsBetween_54 : decode cX5_stepsBetween 54 = .ok (.goto 4, 3) := by decide +kernel
theorem dX5_stepsBetween_57 : decode cX5_stepsBetween 57 = .ok (.iconst 0, 1) := by decide +kernel
theorem dX5_stepsBetween_58 : decode cX5_stepsBetween 58 = .ok (.ior, 1) := by decide +kernel
theorem dX5_stepsBetween_59 : decode cX5_stepsBetween 59 = .ok (.istore 5, 2) := by decide +kernel
theorem dX5_stepsBetween_61 : decode cX5_stepsBetween 61 = .ok (.iinc 6 1, 3) := by decide +kernel
theorem dX5_stepsBetween_64 : decode cX5_stepsBetween 64 = .ok (.goto (-36), 3) := by decide +kernel
theorem dX5_stepsBetween_67 : decode cX5_stepsBetween 67 = .ok (.iload 5, 2) := by decide +kernel
theorem dX5_stepsBetween_69 : decode cX5_stepsBetween 69 = .ok (.istore_n 3, 1) := by decide +kernel
theorem dX5_stepsBetween_70 : decode cX5_stepsBetween 70 = .ok (.iinc 4 1, 3) := by decide +kernel
theorem dX5_stepsBetween_73 : decode cX5_stepsBetween 73 = .ok (.goto (-66), 3) := by decide +kernel
theorem dX5_stepsBetween_76 : decode cX5_stepsBetween 76 = .ok (.iload 4, 2) := by decide +kernel
theorem dX5_stepsBetween_78 : decode cX5_stepsBetween 78 = .ok (.ireturn, 1) := by decide +kernel
noncomputable def f_X5_stepsBetween_L28 (q : Nat) (M : ZMem) (x2 : Int32) (x3 : Int32) (x4 : Int32) (s : (Int32 × Int32)) : Option ((Int32 × Int32) ⊕ (Int32)) := if (zI 20) ≤ s.2 then some (.inr s.1) else if ((zushr x3 s.2) &&& (zI 1)) = (zI 1) then zchk (zin s.2 20) (zbnd (s.1 ||| (M.1 (q + 2) (zix s.2))) (fun x5_59 => zbnd (s.2 + (zI 1)) (fun x6_61 => some (.inl (x5_59, x6_61))))) else zbnd (s.1 ||| (zI 0)) (fun x5_59 => zbnd (s.2 + (zI 1)) (fun x6_61 => some (.inl (x5_59, x6_61))))
set_option maxRecDepth 100000 in
set_option maxHeartbeats 4000000 in
theorem w_X5_stepsBetween_L28 {E : ZEv} {G : ZG} {K : Int32 → Prop} (M : ZMem) (h : zRu lyC E G (zRp M K) cX5_stepsBetween RX5 7 (some .int) 0) (q : Nat) (hq0 : lyC[q]? = some (.inr (5, [none, some (q + 1), some (q + 2), some (q + 3)]))) (hq1 : lyC[q + 1]? = some (.inl (0, 20))) (hq2 : lyC[q + 2]? = some (.inl (0, 20))) (hq3 : lyC[q + 3]? = some (.inl (0, 20))) (x2 : Int32) (x3 : Int32) (x4 : Int32) (s : (Int32 × Int32)) (hk : zOk (zloop (f_X5_stepsBetween_L28 q M x2 x3 x4) s) (fun e => G M 67 [(0, zrf E q), (2, .int x2), (4, .int x4), (5, .int e)] [])) : G M 28 [(0, zrf E q), (2, .int x2), (3, .int x3), (4, .int x4), (5, .int s.1), (6, .int s.2)] [] := by
  refine zloop_walk (P := fun s => G M 28 [(0, zrf E q), (2, .int x2), (3, .int x3), (4, .int x4), (5, .int s.1), (6, .int s.2)] []) hk (fun s hk => ?_)
  unfold f_X5_stepsBetween_L28 at hk
  refine zr_iload h dX5_stepsBetween_28 5 rfl ?_
  refine zr_bipush (v := (zI 20)) h dX5_stepsBetween_30 (by decide) ?_
  refine zr_icmp_ge (tgt := 67) h dX5_stepsBetween_32 (by decide) (fun c => ?_) (fun c => ?_)
  · have hk := zOk_t c hk
    have hk := zOk_some hk
    exact zr_weak h [0, 1, 3, 4] rfl hk
  · have hk := zOk_f c hk
    refine zr_iload h dX5_stepsBetween_35 4 rfl ?_
    refine zr_iload_n h dX5_stepsBetween_37 2 rfl rfl ?_
    refine zr_iload h dX5_stepsBetween_38 5 rfl ?_
    refine zr_iushr h dX5_stepsBetween_40 ?_
    refine zr_iconst (v := (zI 1)) h dX5_stepsBetween_41 rfl ?_
    refine zr_iand h dX5_stepsBetween_42 ?_
    refine zr_iconst (v := (zI 1)) h dX5_stepsBetween_43 rfl ?_
    refine zr_icmp_ne (tgt := 57) h dX5_stepsBetween_44 (by decide) (fun c => ?_) (fun c => ?_)
    · have hk := zOk_t c hk
      refine zr_aload_n h dX5_stepsBetween_47 0 rfl rfl ?_
      refine zr_getR h zfo_X5_15 hq0 rfl dX5_stepsBetween_48 ?_
      refine zr_iload h dX5_stepsBetween_51 5 rfl ?_
      have hb := zOk_chk hk
      have hk := hb.2
      refine zr_iald h hq2 hb.1 dX5_stepsBetween_53 ?_
      refine zr_goto (tgt := 58) h dX5_stepsBetween_54 (by decide) ?_
      refine zr_ior h dX5_stepsBetween_58 ?_
      refine zr_topi (fun x5_59 ex => ?_)
      have hk := zOk_bnd ex hk
      refine zr_istore (L' := [(0, zrf E q), (2, .int x2), (3, .int x3), (4, .int x4), (5, .int x5_59), (6, .int s.2)]) h [1, 2, 3, 4, 0, 5] dX5_stepsBetween_59 (by decide) rfl ?_
      obtain ⟨x6_61, ex⟩ : ∃ y : Int32, y = s.2 + (zI 1) := ⟨_, rfl⟩
      have hk := zOk_bnd ex hk
      refine zr_iinc (v := x6_61) (L' := [(0, zrf E q), (2, .int x2), (3, .int x3), (4, .int x4), (5, .int x5_59), (6, .int x6_61)]) h 5 [1, 2, 3, 4, 5, 0] dX5_stepsBetween_61 rfl (by rw [ex]; rfl) (by decide) rfl ?_
      refine zr_goto (tgt := 28) h dX5_stepsBetween_64 (by decide) ?_
      have hk := zOk_some hk
      exact zr_weak h [0, 1, 2, 3, 4, 5] rfl hk
    · have hk := zOk_f c hk
      refine zr_iconst (v := (zI 0)) h dX5_stepsBetween_57 rfl ?_
      refine zr_ior h dX5_stepsBetween_58 ?_
      refine zr_topi (fun x5_59 ex => ?_)
      have hk := zOk_bnd ex hk
      refine zr_istore (L' := [(0, zrf E q), (2, .int x2), (3, .int x3), (4, .int x4), (5, .int x5_59), (6, .int s.2)]) h [1, 2, 3, 4, 0, 5] dX5_stepsBetween_59 (by decide) rfl ?_
      obtain ⟨x6_61, ex⟩ : ∃ y : Int32, y = s.2 + (zI 1) := ⟨_, rfl⟩
      have hk := zOk_bnd ex hk
      refine zr_iinc (v := x6_61) (L' := [(0, zrf E q), (2, .int x2), (3, .int x3), (4, .int x4), (5, .int x5_59), (6, .int x6_61)]) h 5 [1, 2, 3, 4, 5, 0] dX5_stepsBetween_61 rfl (by rw [ex]; rfl) (by decide) rfl ?_
      refine zr_goto (tgt := 28) h dX5_stepsBetween_64 (by decide) ?_
      have hk := zOk_some hk
      exact zr_weak h [0, 1, 2, 3, 4, 5] rfl hk
noncomputable def f_X5_stepsBetween_L7 (q : Nat) (M : ZMem) (x2 : Int32) (s : (Int32 × Int32)) : Option ((Int32 × Int32) ⊕ (Int32)) := if (zI 20) ≤ s.2 then some (.inr s.2) else if ((zushr s.1 x2) &&& (zI 1)) = (zI 0) then zbind (zloop (f_X5_stepsBetween_L28 q M x2 s.1 s.2) (s.1, (zI 0))) (fun e28 => zbnd (s.2 + (zI 1)) (fun x4_70 => some (.inl (e28, x4_70)))) else some (.inr s.2)
set_option maxRecDepth 100000 in
set_option maxHeartbeats 4000000 in
theorem w_X5_stepsBetween_L7 {E : ZEv} {G : ZG} {K : Int32 → Prop} (M : ZMem) (h : zRu lyC E G (zRp M K) cX5_stepsBetween RX5 7 (some .int) 0) (q : Nat) (hq0 : lyC[q]? = some (.inr (5, [none, some (q + 1), some (q + 2), some (q + 3)]))) (hq1 : lyC[q + 1]? = some (.inl (0, 20))) (hq2 : lyC[q + 2]? = some (.inl (0, 20))) (hq3 : lyC[q + 3]? = some (.inl (0, 20))) (x2 : Int32) (s : (Int32 × Int32)) (hk : zOk (zloop (f_X5_stepsBetween_L7 q M x2) s) (fun e => G M 76 [(4, .int e)] [])) : G M 7 [(0, zrf E q), (2, .int x2), (3, .int s.1), (4, .int s.2)] [] := by
  refine zloop_walk (P := fun s => G M 7 [(0, zrf E q), (2, .int x2), (3, .int s.1), (4, .int s.2)] []) hk (fun s hk => ?_)
  unfold f_X5_stepsBetween_L7 at hk
  refine zr_iload h dX5_stepsBetween_7 3 rfl ?_
  refine zr_bipush (v := (zI 20)) h dX5_stepsBetween_9 (by decide) ?_
  refine zr_icmp_ge (tgt := 76) h dX5_stepsBetween_11 (by decide) (fun c => ?_) (fun c => ?_)
  · have hk := zOk_t c hk
    have hk := zOk_some hk
    exact zr_weak h [3] rfl hk
  · have hk := zOk_f c hk
    refine zr_iload_n h dX5_stepsBetween_14 2 rfl rfl ?_
    refine zr_iload_n h dX5_stepsBetween_15 1 rfl rfl ?_
    refine zr_iushr h dX5_stepsBetween_16 ?_
    refine zr_iconst (v := (zI 1)) h dX5_stepsBetween_17 rfl ?_
    refine zr_iand h dX5_stepsBetween_18 ?_
    refine zr_if_ne (tgt := 76) h dX5_stepsBetween_19 (by decide) (fun c => ?_) (fun c => ?_)
    · have hk := zOk_t c hk
      refine zr_iload_n h dX5_stepsBetween_22 2 rfl rfl ?_
      refine zr_istore (L' := [(0, zrf E q), (2, .int x2), (3, .int s.1), (4, .int s.2), (5, .int s.1)]) h [1, 2, 3, 4, 0] dX5_stepsBetween_23 (by decide) rfl ?_
      refine zr_iconst (v := (zI 0)) h dX5_stepsBetween_25 rfl ?_
      refine zr_istore (L' := [(0, zrf E q), (2, .int x2), (3, .int s.1), (4, .int s.2), (5, .int s.1), (6, .int (zI 0))]) h [1, 2, 3, 4, 5, 0] dX5_stepsBetween_26 (by decide) rfl ?_
      refine w_X5_stepsBetween_L28 M h q hq0 hq1 hq2 hq3 x2 s.1 s.2 (s.1, (zI 0)) (zOk_mono (zOk_bind hk) (fun e28 hk => ?_))
      refine zr_iload h dX5_stepsBetween_67 3 rfl ?_
      refine zr_istore_n (L' := [(0, zrf E q), (2, .int x2), (3, .int e28), (4, .int s.2)]) h [1, 2, 0, 3] dX5_stepsBetween_69 rfl (by decide) rfl ?_
      obtain ⟨x4_70, ex⟩ : ∃ y : Int32, y = s.2 + (zI 1) := ⟨_, rfl⟩
      have hk := zOk_bnd ex hk
      refine zr_iinc (v := x4_70) (L' := [(0, zrf E q), (2, .int x2), (3, .int e28), (4, .int x4_70)]) h 3 [1, 2, 3, 0] dX5_stepsBetween_70 rfl (by rw [ex]; rfl) (by decide) rfl ?_
      refine zr_goto (tgt := 7) h dX5_stepsBetween_73 (by decide) ?_
      have hk := zOk_some hk
      exact zr_weak h [0, 1, 2, 3] rfl hk
    · have hk := zOk_f c hk
      have hk := zOk_some hk
      exact zr_weak h [3] rfl hk
noncomputable def f_X5_stepsBetween (q : Nat) (M : ZMem) (x1 : Int32) (x2 : Int32) : Option Int32 := zbnd ((zI 1) <<< (x1 &&& 31)) (fun x3_3 => zbind (zloop (f_X5_stepsBetween_L7 q M x2) (x3_3, (zI 0))) (fun e7 => some e7))
set_option maxRecDepth 100000 in
set_option maxHeartbeats 4000000 in
theorem c_X5_stepsBetween (E : ZEv) (q : Nat) (hq0 : lyC[q]? = some (.inr (5, [none, some (q + 1), some (q + 2), some (q + 3)]))) (hq1 : lyC[q + 1]? = some (.inl (0, 20))) (hq2 : lyC[q + 2]? = some (.inl (0, 20))) (hq3 : lyC[q + 3]? = some (.inl (0, 20))) (M : ZMem) (x1 : Int32) (x2 : Int32) (K : Int32 → Prop) (hk : zOk (f_X5_stepsBetween q M x1 x2) K) : zCon lyC E yX5_stepsBetween cX5_stepsBetween 7 (some .int) 0 [zrf E q, .int x1, .int x2] M (zRp M K) := by
  refine zcon_of (L0 := [(0, zrf E q), (1, .int x1), (2, .int x2)]) (by decide) rfl (Nat.le_of_ble_eq_true rfl) (fun G h => ?_)
  have h : zRu lyC E G (zRp M K) cX5_stepsBetween RX5 7 (some .int) 0 := h
  unfold f_X5_stepsBetween at hk
  refine zr_iconst (v := (zI 1)) h dX5_stepsBetween_0 rfl ?_
  refine zr_iload_n h dX5_stepsBetween_1 1 rfl rfl ?_
  refine zr_ishl h dX5_stepsBetween_2 ?_
  refine zr_topi (fun x3_3 ex => ?_)
  have hk := zOk_bnd ex hk
  refine zr_istore_n (L' := [(0, zrf E q), (2, .int x2), (3, .int x3_3)]) h [1, 3, 0] dX5_stepsBetween_3 rfl (by decide) rfl ?_
  refine zr_iconst (v := (zI 0)) h dX5_stepsBetween_4 rfl ?_
  refine zr_istore (L' := [(0, zrf E q), (2, .int x2), (3, .int x3_3), (4, .int (zI 0))]) h [1, 2, 3, 0] dX5_stepsBetween_5 (by decide) rfl ?_
  refine w_X5_stepsBetween_L7 M h q hq0 hq1 hq2 hq3 x2 (x3_3, (zI 0)) (zOk_mono (zOk_bind hk) (fun e7 hk => ?_))
  refine zr_iload h dX5_stepsBetween_76 0 rfl ?_
  have hk := zOk_some hk
  exact zr_iret h dX5_stepsBetween_78 ⟨rfl, _, rfl, hk⟩
