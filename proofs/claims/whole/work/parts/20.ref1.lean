theorem dX12_in_0 : decode cX12_in 0 = .ok (.iload_n 0, 1) := by decide +kernel
theorem dX12_in_1 : decode cX12_in 1 = .ok (.iload_n 1, 1) := by decide +kernel
theorem dX12_in_2 : decode cX12_in 2 = .ok (.if_icmp .lt 12, 3) := by decide +kernel
theorem dX12_in_5 : decode cX12_in 5 = .ok (.iload_n 0, 1) := by decide +kernel
theorem dX12_in_6 : decode cX12_in 6 = .ok (.iload_n 2, 1) := by decide +kernel
theorem dX12_in_7 : decode cX12_in 7 = .ok (.if_icmp .gt 7, 3) := by decide +kernel
theorem dX12_in_10 : decode cX12_in 10 = .ok (.iconst 1, 1) := by decide +kernel
theorem dX12_in_11 : decode cX12_in 11 = .ok (.goto 4, 3) := by decide +kernel
theorem dX12_in_14 : decode cX12_in 14 = .ok (.iconst 0, 1) := by decide +kernel
theorem dX12_in_15 : decode cX12_in 15 = .ok (.ireturn, 1) := by decide +kernel
noncomputable def f_X12_in (M : ZMem) (x0 : Int32) (x1 : Int32) (x2 : Int32) : Option Int32 := if x0 < x1 then some (zI 0) else if x2 < x0 then some (zI 0) else some (zI 1)
set_option maxRecDepth 100000 in
set_option maxHeartbeats 4000000 in
theorem c_X12_in (E : ZEv) (M : ZMem) (x0 : Int32) (x1 : Int32) (x2 : Int32) (K : Int32 → Prop) (hk : zOk (f_X12_in M x0 x1 x2) K) : zCon lyR E yX12_in cX12_in 3 (some .boolean) 0 [.int x0, .int x1, .int x2] M (zRp M K) := by
  refine zcon_of (L0 := [(0, .int x0), (1, .int x1), (2, .int x2)]) (by decide) rfl (Nat.le_of_ble_eq_true rfl) (fun G h => ?_)
  have h : zRu lyR E G (zRp M K) cX12_in RX12 3 (some .boolean) 0 := h
  unfold f_X12_in at hk
  refine zr_iload_n h dX12_in_0 0 rfl rfl ?_
  refine zr_iload_n h dX12_in_1 1 rfl rfl ?_
  refine zr_icmp_lt (tgt := 14) h dX12_in_2 (by decide) (fun c => ?_) (fun c => ?_)
  · have hk := zOk_t c hk
    refine zr_iconst (v := (zI 0)) h dX12_in_14 rfl ?_
    have hk := zOk_some hk
    exact zr_zret h dX12_in_15 (by decide) ⟨rfl, _, rfl, hk⟩
  · have hk := zOk_f c hk
    refine zr_iload_n h dX12_in_5 0 rfl rfl ?_
    refine zr_iload_n h dX12_in_6 2 rfl rfl ?_
    refine zr_icmp_gt (tgt := 14) h dX12_in_7 (by decide) (fun c => ?_) (fun c => ?_)
    · have hk := zOk_t c hk
      refine zr_iconst (v := (zI 0)) h dX12_in_14 rfl ?_
      have hk := zOk_some hk
      exact zr_zret h dX12_in_15 (by decide) ⟨rfl, _, rfl, hk⟩
    · have hk := zOk_f c hk
      refine zr_iconst (v := (zI 1)) h dX12_in_10 rfl ?_
      refine zr_goto (tgt := 15) h dX12_in_11 (by decide) ?_
      have hk := zOk_some hk
      exact zr_zret h dX12_in_15 (by decide) ⟨rfl, _, rfl, hk⟩
theorem dX12_truth_0 : decode cX12_truth 0 = .ok (.iload_n 0, 1) := by decide +kernel
theorem dX12_truth_1 : decode cX12_truth 1 = .ok (.ifCond .eq 7, 3) := by decide +kernel
theorem dX12_truth_4 : decode cX12_truth 4 = .ok (.iconst 1, 1) := by decide +kernel
theorem dX12_truth_5 : decode cX12_truth 5 = .ok (.goto 4, 3) := by decide +kernel
theorem dX12_truth_8 : decode cX12_truth 8 = .ok (.iconst 0, 1) := by decide +kernel
theorem dX12_truth_9 : decode cX12_truth 9 = .ok (.ireturn, 1) := by decide +kernel
noncomputable def f_X12_truth (M : ZMem) (x0 : Int32) : Option Int32 := if x0 = (zI 0) then some (zI 0) else some (zI 1)
set_option maxRecDepth 100000 in
set_option maxHeartbeats 4000000 in
theorem c_X12_truth (E : ZEv) (M : ZMem) (x0 : Int32) (K : Int32 → Prop) (hk : zOk (f_X12_truth M x0) K) : zCon lyR E yX12_truth cX12_truth 1 (some .int) 0 [.int x0] M (zRp M K) := by
  refine zcon_of (L0 := [(0, .int x0)]) (by decide) rfl (Nat.le_of_ble_eq_true rfl) (fun G h => ?_)
  have h : zRu lyR E G (zRp M K) cX12_truth RX12 1 (some .int) 0 := h
  unfold f_X12_truth at hk
  refine zr_iload_n h dX12_truth_0 0 rfl rfl ?_
  refine zr_if_eq (tgt := 8) h dX12_truth_1 (by decide) (fun c => ?_) (fun c => ?_)
  · have hk := zOk_t c hk
    refine zr_iconst (v := (zI 0)) h dX12_truth_8 rfl ?_
    have hk := zOk_some hk
    exact zr_iret h dX12_truth_9 ⟨rfl, _, rfl, hk⟩
  · have hk := zOk_f c hk
    refine zr_iconst (v := (zI 1)) h dX12_truth_4 rfl ?_
    refine zr_goto (tgt := 9) h dX12_truth_5 (by decide) ?_
    have hk := zOk_some hk
    exact zr_iret h dX12_truth_9 ⟨rfl, _, rfl, hk⟩
theorem dX12_puts_0 : decode cX12_puts 0 = .ok (.bipush 24, 2) := by decide +kernel
theorem dX12_puts_2 : decode cX12_puts 2 = .ok (.istore_n 2, 1) := by decide +kernel
theorem dX12_puts_3 : decode cX12_puts 3 = .ok (.iload_n 2, 1) := by decide +kernel
theorem dX12_puts_4 : decode cX12_puts 4 = .ok (.ifCond .lt 32, 3) := by decide +kernel
theorem dX12_puts_7 : decode cX12_puts 7 = .ok (.aload_n 0, 1) := by decide +kernel
theorem dX12_puts_8 : decode cX12_puts 8 = .ok (.getfield 9, 3) := by decide +kernel
theorem dX12_puts_11 : decode cX12_puts 11 = .ok (.aload_n 0, 1) := by decide +kernel
theorem dX12_puts_12 : decode cX12_puts 12 = .ok (.getfield 105, 3) := by decide +kernel
theorem dX12_puts_15 : decode cX12_puts 15 = .ok (.iload_n 1, 1) := by decide +kernel
theorem dX12_puts_16 : decode cX12_puts 16 = .ok (.iload_n 2, 1) := by decide +kernel
theorem dX12_puts_17 : decode cX12_puts 17 = .ok (.ishr, 1) := by decide +kernel
theorem dX12_puts_18 : decode cX12_puts 18 = .ok (.i2b, 1) := by decide +kernel
theorem dX12_puts_19 : decode cX12_puts 19 = .ok (.bastore, 1) := by decide +kernel
theorem dX12_puts_20 : decode cX12_puts 20 = .ok (.aload_n 0, 1) := by decide +kernel
theorem dX12_puts_21 : decode cX12_puts 21 = .ok (.dup, 1) := by decide +kernel
theorem dX12_puts_22 : decode cX12_puts 22 = .ok (.getfield 105, 3) := by decide +kernel
theorem dX12_puts_25 : decode cX12_puts 25 = .ok (.iconst 1, 1) := by decide +kernel
theorem dX12_puts_26 : decode cX12_puts 26 = .ok (.iadd, 1) := by decide +kernel
theorem dX12_puts_27 : decode cX12_puts 27 = .ok (.putfield 105, 3) := by decide +kernel
theorem dX12_puts_30 : decode cX12_puts 30 = .ok (.iinc 2 (-8), 3) := by decide +kernel
theorem dX12_puts_33 : decode cX12_puts 33 = .ok (.goto (-30), 3) := by decide +kernel
theorem dX12_puts_36 : decode cX12_puts 36 = .ok (.return_, 1) := by decide +kernel
noncomputable def f_X12_puts_L3 (x1 : Int32) (s : (ZMem × Int32)) : Option ((ZMem × Int32) ⊕ (ZMem)) := if s.2 < (zI 0) then some (.inr s.1) else zchk (zin (s.1.1 0 1) 300) (zbnd (zstI s.1 1 (zix (s.1.1 0 1)) (vp_nar .byte (((x1 >>> (s.2 &&& 31)) : Int32).toInt8.toInt32))) (fun M_19 => zbnd (zstI M_19 0 1 ((M_19.1 0 1) + (zI 1))) (fun M_27 => zbnd (s.2 + (zI (-8))) (fun x2_30 => some (.inl (M_27, x2_30))))))
set_option maxRecDepth 100000 in
set_option maxHeartbeats 4000000 in
theorem w_X12_puts_L3 {E : ZEv} {G : ZG} {K : ZMem → Prop} (h : zRu lyR E G (zRv K) cX12_puts RX12 3 none 0) (x1 : Int32) (s : (ZMem × Int32)) (hk : zOk (zloop (f_X12_puts_L3 x1) s) (fun e => G e 36 [] [])) : G s.1 3 [(0, zrf E 0), (1, .int x1), (2, .int s.2)] [] := by
  refine zloop_walk (P := fun s => G s.1 3 [(0, zrf E 0), (1, .int x1), (2, .int s.2)] []) hk (fun s hk => ?_)
  unfold f_X12_puts_L3 at hk
  refine zr_iload_n h dX12_puts_3 2 rfl rfl ?_
  refine zr_if_lt (tgt := 36) h dX12_puts_4 (by decide) (fun c => ?_) (fun c => ?_)
  · have hk := zOk_t c hk
    have hk := zOk_some hk
    exact zr_weak h [] rfl hk
  · have hk := zOk_f c hk
    refine zr_aload_n h dX12_puts_7 0 rfl rfl ?_
    refine zr_getR h zfo_X12_9 lR_0 rfl dX12_puts_8 ?_
    refine zr_aload_n h dX12_puts_11 0 rfl rfl ?_
    refine zr_getI h zfo_X12_105 lR_0 rfl dX12_puts_12 ?_
    refine zr_iload_n h dX12_puts_15 1 rfl rfl ?_
    refine zr_iload_n h dX12_puts_16 2 rfl rfl ?_
    refine zr_ishr h dX12_puts_17 ?_
    refine zr_i2b h dX12_puts_18 ?_
    have hb := zOk_chk hk
    have hk := hb.2
    refine zr_bast h lR_1 hb.1 dX12_puts_19 ?_
    refine zr_mem (fun M_19 eM => ?_)
    have hk := zOk_bnd eM hk
    refine zr_aload_n h dX12_puts_20 0 rfl rfl ?_
    refine zr_dup h dX12_puts_21 rfl ?_
    refine zr_getI h zfo_X12_105 lR_0 rfl dX12_puts_22 ?_
    refine zr_iconst (v := (zI 1)) h dX12_puts_25 rfl ?_
    refine zr_iadd h dX12_puts_26 ?_
    refine zr_putI h zfp_X12_105 lR_0 rfl dX12_puts_27 ?_
    refine zr_mem (fun M_27 eM => ?_)
    have hk := zOk_bnd eM hk
    obtain ⟨x2_30, ex⟩ : ∃ y : Int32, y = s.2 + (zI (-8)) := ⟨_, rfl⟩
    have hk := zOk_bnd ex hk
    refine zr_iinc (v := x2_30) (L' := [(0, zrf E 0), (1, .int x1), (2, .int x2_30)]) h 2 [1, 2, 0] dX12_puts_30 rfl (by rw [ex]; rfl) (by decide) rfl ?_
    refine zr_goto (tgt := 3) h dX12_puts_33 (by decide) ?_
    have hk := zOk_some hk
    exact zr_weak h [0, 1, 2] rfl hk
noncomputable def f_X12_puts (M : ZMem) (x1 : Int32) : Option ZMem := zbind (zloop (f_X12_puts_L3 x1) (M, (zI 24))) (fun e3 => some e3)
set_option maxRecDepth 100000 in
set_option maxHeartbeats 4000000 in
theorem c_X12_puts (E : ZEv) (M : ZMem) (x1 : Int32) (K : ZMem → Prop) (hk : zOk (f_X12_puts M x1) K) : zCon lyR E yX12_puts cX12_puts 3 none 0 [zrf E 0, .int x1] M (zRv K) := by
  refine zcon_of (L0 := [(0, zrf E 0), (1, .int x1)]) (by decide) rfl (Nat.le_of_ble_eq_true rfl) (fun G h => ?_)
  have h : zRu lyR E G (zRv K) cX12_puts RX12 3 none 0 := h
  unfold f_X12_puts at hk
  refine zr_bipush (v := (zI 24)) h dX12_puts_0 (by decide) ?_
  refine zr_istore_n (L' := [(0, zrf E 0), (1, .int x1), (2, .int (zI 24))]) h [1, 2, 0] dX12_puts_2 rfl (by decide) rfl ?_
  refine w_X12_puts_L3 h x1 (M, (zI 24)) (zOk_mono (zOk_bind hk) (fun e3 hk => ?_))
  have hk := zOk_some hk
  exact zr_vret h dX12_puts_36 ⟨rfl, hk⟩
theorem dX12_feed_0 : decode cX12_feed 0 = .ok (.aload_n 0, 1) := by decide +kernel
theorem dX12_feed_1 : decode cX12_feed 1 = .ok (.getfield 105, 3) := by decide +kernel
theorem dX12_feed_4 : decode cX12_feed 4 = .ok (.bipush 20, 2) := by decide +kernel
theorem dX12_feed_6 : decode cX12_feed 6 = .ok (.iadd, 1) := by decide +kernel
theorem dX12_feed_7 : decode cX12_feed 7 = .ok (.sipush 300, 3) := by decide +kernel
theorem dX12_feed_10 : decode cX12_feed 10 = .ok (.if_icmp .le 5, 3) := by decide +kernel
theorem dX12_feed_13 : decode cX12_feed 13 = .ok (.iconst (-1), 1) := by decide +kernel
theorem dX12_feed_14 : decode cX12_feed 14 = .ok (.ireturn, 1) := by decide +kernel
theorem dX12_feed_15 : decode cX12_feed 15 = .ok (.aload_n 0, 1) := by decide +kernel
theorem dX12_feed_16 : decode cX12_feed 16 = .ok (.iload_n 1, 1) := by decide +kernel
theorem dX12_feed_17 : decode cX12_feed 17 = .ok (.invokevirtual 109, 3) := by decide +kernel
theorem dX12_feed_20 : decode cX12_feed 20 = .ok (.aload_n 0, 1) := by decide +kernel
theorem dX12_feed_21 : decode cX12_feed 21 = .ok (.iload_n 2, 1) := by decide +kernel
theorem dX12_feed_22 : decode cX12_feed 22 = .ok (.invokevirtual 109, 3) := by decide +kernel
theorem dX12_feed_25 : decode cX12_feed 25 = .ok (.aload_n 0, 1) := by decide +kernel
theorem dX12_feed_26 : decode cX12_feed 26 = .ok (.iload_n 3, 1) := by decide +kernel
theorem dX12_feed_27 : decode cX12_feed 27 = .ok (.invokevirtual 109, 3) := by decide +kernel
theorem dX12_feed_30 : decode cX12_feed 30 = .ok (.aload_n 0, 1) := by decide +kernel
theorem dX12_feed_31 : decode cX12_feed 31 = .ok (.iload 4, 2) := by decide +kernel
theorem dX12_feed_33 : decode cX12_feed 33 = .ok (.invokevirtual 109, 3) := by decide +kernel
theorem dX12_feed_36 : decode cX12_feed 36 = .ok (.aload_n 0, 1) := by decide +kernel
theorem dX12_feed_37 : decode cX12_feed 37 = .ok (.iload 5, 2) := by decide +kernel
theorem dX12_feed_39 : decode cX12_feed 39 = .ok (.invokevirtual 109, 3) := by decide +kernel
theorem dX12_feed_42 : decode cX12_feed 42 = .ok (.aload_n 0, 1) := by decide +kernel
theorem dX12_feed_43 : decode cX12_feed 43 = .ok (.getfield 105, 3) := by decide +kernel
theorem dX12_feed_46 : decode cX12_feed 46 = .ok (.ireturn, 1) := by decide +kernel
noncomputable def f_X12_feed (M : ZMem) (x1 : Int32) (x2 : Int32) (x3 : Int32) (x4 : Int32) (x5 : Int32) : Option (ZMem × Int32) := if ((M.1 0 1) + (zI 20)) ≤ (zI 300) then zbind (f_X12_puts M x1) (fun M_17 => zbind (f_X12_puts M_17 x2) (fun M_22 => zbind (f_X12_puts M_22 x3) (fun M_27 => zbind (f_X12_puts M_27 x4) (fun M_33 => zbind (f_X12_puts M_33 x5) (fun M_39 => some (M_39, (M_39.1 0 1))))))) else some (M, (zI (-1)))
set_option maxRecDepth 100000 in
set_option maxHeartbeats 4000000 in
theorem c_X12_feed (E : ZEv) (M : ZMem) (x1 : Int32) (x2 : Int32) (x3 : Int32) (x4 : Int32) (x5 : Int32) (K : ZMem × Int32 → Prop) (hk : zOk (f_X12_feed M x1 x2 x3 x4 x5) K) : zCon lyR E yX12_feed cX12_feed 6 (some .int) 1 [zrf E 0, .int x1, .int x2, .int x3, .int x4, .int x5] M (zRm K) := by
  refine zcon_of (L0 := [(0, zrf E 0), (1, .int x1), (2, .int x2), (3, .int x3), (4, .int x4), (5, .int x5)]) (by decide) rfl (Nat.le_of_ble_eq_true rfl) (fun G h => ?_)
  have h : zRu lyR E G (zRm K) cX12_feed RX12 6 (some .int) 1 := h
  unfold f_X12_feed at hk
  refine zr_aload_n h dX12_feed_0 0 rfl rfl ?_
  refine zr_getI h zfo_X12_105 lR_0 rfl dX12_feed_1 ?_
  refine zr_bipush (v := (zI 20)) h dX12_feed_4 (by decide) ?_
  refine zr_iadd h dX12_feed_6 ?_
  refine zr_sipush (v := (zI 300)) h dX12_feed_7 (by decide) ?_
  refine zr_icmp_le (tgt := 15) h dX12_feed_10 (by decide) (fun c => ?_) (fun c => ?_)
  · have hk := zOk_t c hk
    refine zr_aload_n h dX12_feed_15 0 rfl rfl ?_
    refine zr_iload_n h dX12_feed_16 1 rfl rfl ?_
    refine zr_callVv h lR_0 zcw_X12_109 (by decide) (c_X12_puts E M x1 _ (zOk_bind hk)) rfl rfl (Nat.le_of_ble_eq_true rfl) dX12_feed_17 (fun M_17 hk => ?_)
    refine zr_aload_n h dX12_feed_20 0 rfl rfl ?_
    refine zr_iload_n h dX12_feed_21 2 rfl rfl ?_
    refine zr_callVv h lR_0 zcw_X12_109 (by decide) (c_X12_puts E M_17 x2 _ (zOk_bind hk)) rfl rfl (Nat.le_of_ble_eq_true rfl) dX12_feed_22 (fun M_22 hk => ?_)
    refine zr_aload_n h dX12_feed_25 0 rfl rfl ?_
    refine zr_iload_n h dX12_feed_26 3 rfl rfl ?_
    refine zr_callVv h lR_0 zcw_X12_109 (by decide) (c_X12_puts E M_22 x3 _ (zOk_bind hk)) rfl rfl (Nat.le_of_ble_eq_true rfl) dX12_feed_27 (fun M_27 hk => ?_)
    refine zr_aload_n h dX12_feed_30 0 rfl rfl ?_
    refine zr_iload h dX12_feed_31 4 rfl ?_
    refine zr_callVv h lR_0 zcw_X12_109 (by decide) (c_X12_puts E M_27 x4 _ (zOk_bind hk)) rfl rfl (Nat.le_of_ble_eq_true rfl) dX12_feed_33 (fun M_33 hk => ?_)
    refine zr_aload_n h dX12_feed_36 0 rfl rfl ?_
    refine zr_iload h dX12_feed_37 5 rfl ?_
    refine zr_callVv h lR_0 zcw_X12_109 (by decide) (c_X12_puts E M_33 x5 _ (zOk_bind hk)) rfl rfl (Nat.le_of_ble_eq_true rfl) dX12_feed_39 (fun M_39 hk => ?_)
    refine zr_aload_n h dX12_feed_42 0 rfl rfl ?_
    refine zr_getI h zfo_X12_105 lR_0 rfl dX12_feed_43 ?_
    have hk := zOk_some hk
    exact zr_iret h dX12_feed_46 ⟨_, rfl, hk⟩
  · have hk := zOk_f c hk
    refine zr_iconst (v := (zI (-1))) h dX12_feed_13 rfl ?_
    have hk := zOk_some hk
    exact zr_iret h dX12_feed_14 ⟨_, rfl, hk⟩
theorem dX12_end_0 : decode cX12_end 0 = .ok (.iload_n 1, 1) := by decide +kernel
theorem dX12_end_1 : decode cX12_end 1 = .ok (.ifCond .lt 11, 3) := by decide +kernel
theorem dX12_end_4 : decode cX12_end 4 = .ok (.iload_n 1, 1) := by decide +kernel
theorem dX12_end_5 : decode cX12_end 5 = .ok (.aload_n 0, 1) := by decide +kernel
theorem dX12_end_6 : decode cX12_end 6 = .ok (.getfield 105, 3) := by decide +kernel
theorem dX12_end_9 : decode cX12_end 9 = .ok (.if_icmp .le 5, 3) := by decide +kernel
theorem dX12_end_12 : decode cX12_end 12 = .ok (.iconst (-1), 1) := by decide +kernel
theorem dX12_end_13 : decode cX12_end 13 = .ok (.ireturn, 1) := by decide +kernel
theorem dX12_end_14 : decode cX12_end 14 = .ok (.aload_n 0, 1) := by decide +kernel
theorem dX12_end_15 : decode cX12_end 15 = .ok (.iload_n 1, 1) := by decide +kernel
theorem dX12_end_16 : decode cX12_end 16 = .ok (.putfield 105, 3) := by decide +kernel
theorem dX12_end_19 : decode cX12_end 19 = .ok (.iload_n 1, 1) := by decide +kernel
theorem dX12_end_20 : decode cX12_end 20 = .ok (.ireturn, 1) := by decide +kernel
noncomputable def f_X12_end (M : ZMem) (x1 : Int32) : Option (ZMem × Int32) := if x1 < (zI 0) then some (M, (zI (-1))) else if x1 ≤ (M.1 0 1) then zbnd (zstI M 0 1 x1) (fun M_16 => some (M_16, x1)) else some (M, (zI (-1)))
set_option maxRecDepth 100000 in
set_option maxHeartbeats 4000000 in
theorem c_X12_end (E : ZEv) (M : ZMem) (x1 : Int32) (K : ZMem × Int32 → Prop) (hk : zOk (f_X12_end M x1) K) : zCon lyR E yX12_end cX12_end 2 (some .int) 0 [zrf E 0, .int x1] M (zRm K) := by
  refine zcon_of (L0 := [(0, zrf E 0), (1, .int x1)]) (by decide) rfl (Nat.le_of_ble_eq_true rfl) (fun G h => ?_)
  have h : zRu lyR E G (zRm K) cX12_end RX12 2 (some .int) 0 := h
  unfold f_X12_end at hk
  refine zr_iload_n h dX12_end_0 1 rfl rfl ?_
  refine zr_if_lt (tgt := 12) h dX12_end_1 (by decide) (fun c => ?_) (fun c => ?_)
  · have hk := zOk_t c hk
    refine zr_iconst (v := (zI (-1))) h dX12_end_12 rfl ?_
    have hk := zOk_some hk
    exact zr_iret h dX12_end_13 ⟨_, rfl, hk⟩
  · have hk := zOk_f c hk
    refine zr_iload_n h dX12_end_4 1 rfl rfl ?_
    refine zr_aload_n h dX12_end_5 0 rfl rfl ?_
    refine zr_getI h zfo_X12_105 lR_0 rfl dX12_end_6 ?_
    refine zr_icmp_le (tgt := 14) h dX12_end_9 (by decide) (fun c => ?_) (fun c => ?_)
    · have hk := zOk_t c hk
      refine zr_aload_n h dX12_end_14 0 rfl rfl ?_
      refine zr_iload_n h dX12_end_15 1 rfl rfl ?_
      refine zr_putI h zfp_X12_105 lR_0 rfl dX12_end_16 ?_
      refine zr_mem (fun M_16 eM => ?_)
      have hk := zOk_bnd eM hk
      refine zr_iload_n h dX12_end_19 1 rfl rfl ?_
      have hk := zOk_some hk
      exact zr_iret h dX12_end_20 ⟨_, rfl, hk⟩
    · have hk := zOk_f c hk
      refine zr_iconst (v := (zI (-1))) h dX12_end_12 rfl ?_
      have hk := zOk_some hk
      exact zr_iret h dX12_end_13 ⟨_, rfl, hk⟩
theorem dX12_sign_0 : decode cX12_sign 0 = .ok (.aload_n 0, 1) := by decide +kernel
theorem dX12_sign_1 : decode cX12_sign 1 = .ok (.getfield 113, 3) := by decide +kernel
theorem dX12_sign_4 : decode cX12_sign 4 = .ok (.aload_n 0, 1) := by decide +kernel
theorem dX12_sign_5 : decode cX12_sign 5 = .ok (.getfield 105, 3) := by decide +kernel
theorem dX12_sign_8 : decode cX12_sign 8 = .ok (.if_icmp .ge 19, 3) := by decide +kernel
theorem dX12_sign_11 : decode cX12_sign 11 = .ok (.aload_n 0, 1) := by decide +kernel
theorem dX12_sign_12 : decode cX12_sign 12 = .ok (.getfield 9, 3) := by decide +kernel
theorem dX12_sign_15 : decode cX12_sign 15 = .ok (.aload_n 0, 1) := by decide +kernel
theorem dX12_sign_16 : decode cX12_sign 16 = .ok (.getfield 113, 3) := by decide +kernel
theorem dX12_sign_19 : decode cX12_sign 19 = .ok (.baload, 1) := by decide +kernel
theorem dX12_sign_20 : decode cX12_sign 20 = .ok (.sipush 255, 3) := by decide +kernel
theorem dX12_sign_23 : decode cX12_sign 23 = .ok (.iand, 1) := by decide +kernel
theorem dX12_sign_24 : decode cX12_sign 24 = .ok (.goto 4, 3) := by decide +kernel
theorem dX12_sign_27 : decode cX12_sign 27 = .ok (.iconst (-1), 1) := by decide +kernel
theorem dX12_sign_28 : decode cX12_sign 28 = .ok (.ireturn, 1) := by decide +kernel
noncomputable def f_X12_sign (M : ZMem) : Option Int32 := if (M.1 0 1) ≤ (M.1 0 2) then some (zI (-1)) else zchk (zin (M.1 0 2) 300) (some ((M.1 1 (zix (M.1 0 2))) &&& (zI 255)))
set_option maxRecDepth 100000 in
set_option maxHeartbeats 4000000 in
theorem c_X12_sign (E : ZEv) (M : ZMem) (K : Int32 → Prop) (hk : zOk (f_X12_sign M) K) : zCon lyR E yX12_sign cX12_sign 1 (some .int) 0 [zrf E 0] M (zRp M K) := by
  refine zcon_of (L0 := [(0, zrf E 0)]) (by decide) rfl (Nat.le_of_ble_eq_true rfl) (fun G h => ?_)
  have h : zRu lyR E G (zRp M K) cX12_sign RX12 1 (some .int) 0 := h
  unfold f_X12_sign at hk
  refine zr_aload_n h dX12_sign_0 0 rfl rfl ?_
  refine zr_getI h zfo_X12_113 lR_0 rfl dX12_sign_1 ?_
  refine zr_aload_n h dX12_sign_4 0 rfl rfl ?_
  refine zr_getI h zfo_X12_105 lR_0 rfl dX12_sign_5 ?_
  refine zr_icmp_ge (tgt := 27) h dX12_sign_8 (by decide) (fun c => ?_) (fun c => ?_)
  · have hk := zOk_t c hk
    refine zr_iconst (v := (zI (-1))) h dX12_sign_27 rfl ?_
    have hk := zOk_some hk
    exact zr_iret h dX12_sign_28 ⟨rfl, _, rfl, hk⟩
  · have hk := zOk_f c hk
    refine zr_aload_n h dX12_sign_11 0 rfl rfl ?_
    refine zr_getR h zfo_X12_9 lR_0 rfl dX12_sign_12 ?_
    refine zr_aload_n h dX12_sign_15 0 rfl rfl ?_
    refine zr_getI h zfo_X12_113 lR_0 rfl dX12_sign_16 ?_
    have hb := zOk_chk hk
    have hk := hb.2
    refine zr_bald h lR_1 hb.1 dX12_sign_19 ?_
    refine zr_sipush (v := (zI 255)) h dX12_sign_20 (by decide) ?_
    refine zr_iand h dX12_sign_23 ?_
    refine zr_goto (tgt := 28) h dX12_sign_24 (by decide) ?_
    have hk := zOk_some hk
    exact zr_iret h dX12_sign_28 ⟨rfl, _, rfl, hk⟩
theorem dX12_fails_0 : decode cX12_fails 0 = .ok (.aload_n 0, 1) := by decide +kernel
theorem dX12_fails_1 : decode cX12_fails 1 = .ok (.getfield 116, 3) := by decide +kernel
theorem dX12_fails_4 : decode cX12_fails 4 = .ok (.iconst (-1), 1) := by decide +kernel
theorem dX12_fails_5 : decode cX12_fails 5 = .ok (.if_icmp .ne 13, 3) := by decide +kernel
theorem dX12_fails_8 : decode cX12_fails 8 = .ok (.aload_n 0, 1) := by decide +kernel
theorem dX12_fails_9 : decode cX12_fails 9 = .ok (.bipush 8, 2) := by decide +kernel
theorem dX12_fails_11 : decode cX12_fails 11 = .ok (.iload_n 2, 1) := by decide +kernel
theorem dX12_fails_12 : decode cX12_fails 12 = .ok (.imul, 1) := by decide +kernel
theorem dX12_fails_13 : decode cX12_fails 13 = .ok (.iload_n 1, 1) := by decide +kernel
theorem dX12_fails_14 : decode cX12_fails 14 = .ok (.iadd, 1) := by decide +kernel
theorem dX12_fails_15 : decode cX12_fails 15 = .ok (.putfield 116, 3) := by decide +kernel
theorem dX12_fails_18 : decode cX12_fails 18 = .ok (.return_, 1) := by decide +kernel
noncomputable def f_X12_fails (M : ZMem) (x1 : Int32) (x2 : Int32) : Option ZMem := if (M.1 0 3) = (zI (-1)) then zbnd (zstI M 0 3 (((zI 8) * x2) + x1)) (fun M_15 => some M_15) else some M
set_option maxRecDepth 100000 in
set_option maxHeartbeats 4000000 in
theorem c_X12_fails (E : ZEv) (M : ZMem) (x1 : Int32) (x2 : Int32) (K : ZMem → Prop) (hk : zOk (f_X12_fails M x1 x2) K) : zCon lyR E yX12_fails cX12_fails 3 none 0 [zrf E 0, .int x1, .int x2] M (zRv K) := by
  refine zcon_of (L0 := [(0, zrf E 0), (1, .int x1), (2, .int x2)]) (by decide) rfl (Nat.le_of_ble_eq_true rfl) (fun G h => ?_)
  have h : zRu lyR E G (zRv K) cX12_fails RX12 3 none 0 := h
  unfold f_X12_fails at hk
  refine zr_aload_n h dX12_fails_0 0 rfl rfl ?_
  refine zr_getI h zfo_X12_116 lR_0 rfl dX12_fails_1 ?_
  refine zr_iconst (v := (zI (-1))) h dX12_fails_4 rfl ?_
  refine zr_icmp_ne (tgt := 18) h dX12_fails_5 (by decide) (fun c => ?_) (fun c => ?_)
  · have hk := zOk_t c hk
    refine zr_aload_n h dX12_fails_8 0 rfl rfl ?_
    refine zr_bipush (v := (zI 8)) h dX12_fails_9 (by decide) ?_
    refine zr_iload_n h dX12_fails_11 2 rfl rfl ?_
    refine zr_imul h dX12_fails_12 ?_
    refine zr_iload_n h dX12_fails_13 1 rfl rfl ?_
    refine zr_iadd h dX12_fails_14 ?_
    refine zr_putI h zfp_X12_116 lR_0 rfl dX12_fails_15 ?_
    refine zr_mem (fun M_15 eM => ?_)
    have hk := zOk_bnd eM hk
    have hk := zOk_some hk
    exact zr_vret h dX12_fails_18 ⟨rfl, hk⟩
  · have hk := zOk_f c hk
    have hk := zOk_some hk
    exact zr_vret h dX12_fails_18 ⟨rfl, hk⟩
theorem dX12_isRight_0 : decode cX12_isRight 0 = .ok (.aload_n 0, 1) := by decide +kernel
theorem dX12_isRight_1 : decode cX12_isRight 1 = .ok (.getfield 116, 3) := by decide +kernel
theorem dX12_isRight_4 : decode cX12_isRight 4 = .ok (.iconst (-1), 1) := by decide +kernel
theorem dX12_isRight_5 : decode cX12_isRight 5 = .ok (.if_icmp .ne 7, 3) := by decide +kernel
theorem dX12_isRight_8 : decode cX12_isRight 8 = .ok (.iconst 1, 1) := by decide +kernel
theorem dX12_isRight_9 : decode cX12_isRight 9 = .ok (.goto 4, 3) := by decide +kernel
theorem dX12_isRight_12 : decode cX12_isRight 12 = .ok (.iconst 0, 1) := by decide +kernel
theorem dX12_isRight_13 : decode cX12_isRight 13 = .ok (.ireturn, 1) := by decide +kernel
noncomputable def f_X12_isRight (M : ZMem) : Option Int32 := if (M.1 0 3) = (zI (-1)) then some (zI 1) else some (zI 0)
set_option maxRecDepth 100000 in
set_option maxHeartbeats 4000000 in
theorem c_X12_isRight (E : ZEv) (M : ZMem) (K : Int32 → Prop) (hk : zOk (f_X12_isRight M) K) : zCon lyR E yX12_isRight cX12_isRight 1 (some .boolean) 0 [zrf E 0] M (zRp M K) := by
  refine zcon_of (L0 := [(0, zrf E 0)]) (by decide) rfl (Nat.le_of_ble_eq_true rfl) (fun G h => ?_)
  have h : zRu lyR E G (zRp M K) cX12_isRight RX12 1 (some .boolean) 0 := h
  unfold f_X12_isRight at hk
  refine zr_aload_n h dX12_isRight_0 0 rfl rfl ?_
  refine zr_getI h zfo_X12_116 lR_0 rfl dX12_isRight_1 ?_
  refine zr_iconst (v := (zI (-1))) h dX12_isRight_4 rfl ?_
  refine zr_icmp_ne (tgt := 12) h dX12_isRight_5 (by decide) (fun c => ?_) (fun c => ?_)
  · have hk := zOk_t c hk
    refine zr_iconst (v := (zI 1)) h dX12_isRight_8 rfl ?_
    refine zr_goto (tgt := 13) h dX12_isRight_9 (by decide) ?_
    have hk := zOk_some hk
    exact zr_zret h dX12_isRight_13 (by decide) ⟨rfl, _, rfl, hk⟩
  · have hk := zOk_f c hk
    refine zr_iconst (v := (zI 0)) h dX12_isRight_12 rfl ?_
    have hk := zOk_some hk
    exact zr_zret h dX12_isRight_13 (by decide) ⟨rfl, _, rfl, hk⟩
theorem dX12_isDigit_0 : decode cX12_isDigit 0 = .ok (.aload_n 0, 1) := by decide +kernel
theorem dX12_isDigit_1 : decode cX12_isDigit 1 = .ok (.invokevirtual 119, 3) := by decide +kernel
theorem dX12_isDigit_4 : decode cX12_isDigit 4 = .ok (.bipush 48, 2) := by decide +kernel
theorem dX12_isDigit_6 : decode cX12_isDigit 6 = .ok (.bipush 57, 2) := by decide +kernel
theorem dX12_isDigit_8 : decode cX12_isDigit 8 = .ok (.invokestatic 123, 3) := by decide +kernel
theorem dX12_isDigit_11 : decode cX12_isDigit 11 = .ok (.ireturn, 1) := by decide +kernel
noncomputable def f_X12_isDigit (M : ZMem) : Option Int32 := zbind (f_X12_sign M) (fun r_1 => zbind (f_X12_in M r_1 (zI 48) (zI 57)) (fun r_8 => zchk (zisB r_8) (some r_8)))
set_option maxRecDepth 100000 in
set_option maxHeartbeats 4000000 in
theorem c_X12_isDigit (E : ZEv) (M : ZMem) (K : Int32 → Prop) (hk : zOk (f_X12_isDigit M) K) : zCon lyR E yX12_isDigit cX12_isDigit 1 (some .boolean) 1 [zrf E 0] M (zRp M K) := by
  refine zcon_of (L0 := [(0, zrf E 0)]) (by decide) rfl (Nat.le_of_ble_eq_true rfl) (fun G h => ?_)
  have h : zRu lyR E G (zRp M K) cX12_isDigit RX12 1 (some .boolean) 1 := h
  unfold f_X12_isDigit at hk
  refine zr_aload_n h dX12_isDigit_0 0 rfl rfl ?_
  refine zr_callVp h lR_0 zcw_X12_119 (by decide) (c_X12_sign E M _ (zOk_bind hk)) rfl rfl (Nat.le_of_ble_eq_true rfl) dX12_isDigit_1 (fun r_1 hk => ?_)
  refine zr_bipush (v := (zI 48)) h dX12_isDigit_4 (by decide) ?_
  refine zr_bipush (v := (zI 57)) h dX12_isDigit_6 (by decide) ?_
  refine zr_callSp h zcw_X12_123 (by decide) (c_X12_in E M r_1 (zI 48) (zI 57) _ (zOk_bind hk)) rfl rfl (Nat.le_of_ble_eq_true rfl) dX12_isDigit_8 (fun r_8 hk => ?_)
  have hb := zOk_chk hk
  have hk := hb.2
  have hk := zOk_some hk
  exact zr_zret h dX12_isDigit_11 hb.1 ⟨rfl, _, rfl, hk⟩
theorem dX12_blanks_0 : decode cX12_blanks 0 = .ok (.aload_n 0, 1) := by decide +kernel
theorem dX12_blanks_1 : decode cX12_blanks 1 = .ok (.invokevirtual 119, 3) := by decide +kernel
theorem dX12_blanks_4 : decode cX12_blanks 4 = .ok (.bipush 32, 2) := by decide +kernel
theorem dX12_blanks_6 : decode cX12_blanks 6 = .ok (.if_icmp .ne 16, 3) := by decide +kernel
theorem dX12_blanks_9 : decode cX12_blanks 9 = .ok (.aload_n 0, 1) := by decide +kernel
theorem dX12_blanks_10 : decode cX12_blanks 10 = .ok (.dup, 1) := by decide +kernel
theorem dX12_blanks_11 : decode cX12_blanks 11 = .ok (.getfield 113, 3) := by decide +kernel
theorem dX12_blanks_14 : decode cX12_blanks 14 = .ok (.iconst 1, 1) := by decide +kernel
theorem dX12_blanks_15 : decode cX12_blanks 15 = .ok (.iadd, 1) := by decide +kernel
theorem dX12_blanks_16 : decode cX12_blanks 16 = .ok (.putfield 113, 3) := by decide +kernel
theorem dX12_blanks_19 : decode cX12_blanks 19 = .ok (.goto (-19), 3) := by decide +kernel
theorem dX12_blanks_22 : decode cX12_blanks 22 = .ok (.return_, 1) := by decide +kernel
noncomputable def f_X12_blanks_L0 (s : (ZMem)) : Option ((ZMem) ⊕ (ZMem)) := zbind (f_X12_sign s) (fun r_1 => if r_1 = (zI 32) then zbnd (zstI s 0 2 ((s.1 0 2) + (zI 1))) (fun M_16 => some (.inl M_16)) else some (.inr s))
set_option maxRecDepth 100000 in
set_option maxHeartbeats 4000000 in
theorem w_X12_blanks_L0 {E : ZEv} {G : ZG} {K : ZMem → Prop} (h : zRu lyR E G (zRv K) cX12_blanks RX12 1 none 1) (s : (ZMem)) (hk : zOk (zloop (f_X12_blanks_L0) s) (fun e => G e 22 [] [])) : G s 0 [(0, zrf E 0)] [] := by
  refine zloop_walk (P := fun s => G s 0 [(0, zrf E 0)] []) hk (fun s hk => ?_)
  unfold f_X12_blanks_L0 at hk
  refine zr_aload_n h dX12_blanks_0 0 rfl rfl ?_
  refine zr_callVp h lR_0 zcw_X12_119 (by decide) (c_X12_sign E s _ (zOk_bind hk)) rfl rfl (Nat.le_of_ble_eq_true rfl) dX12_blanks_1 (fun r_1 hk => ?_)
  refine zr_bipush (v := (zI 32)) h dX12_blanks_4 (by decide) ?_
  refine zr_icmp_ne (tgt := 22) h dX12_blanks_6 (by decide) (fun c => ?_) (fun c => ?_)
  · have hk := zOk_t c hk
    refine zr_aload_n h dX12_blanks_9 0 rfl rfl ?_
    refine zr_dup h dX12_blanks_10 rfl ?_
    refine zr_getI h zfo_X12_113 lR_0 rfl dX12_blanks_11 ?_
    refine zr_iconst (v := (zI 1)) h dX12_blanks_14 rfl ?_
    refine zr_iadd h dX12_blanks_15 ?_
    refine zr_putI h zfp_X12_113 lR_0 rfl dX12_blanks_16 ?_
    refine zr_mem (fun M_16 eM => ?_)
    have hk := zOk_bnd eM hk
    refine zr_goto (tgt := 0) h dX12_blanks_19 (by decide) ?_
    have hk := zOk_some hk
    exact zr_weak h [0] rfl hk
  · have hk := zOk_f c hk
    have hk := zOk_some hk
    exact zr_weak h [] rfl hk
noncomputable def f_X12_blanks (M : ZMem) : Option ZMem := zbind (zloop (f_X12_blanks_L0) M) (fun e0 => some e0)
set_option maxRecDepth 100000 in
set_option maxHeartbeats 4000000 in
theorem c_X12_blanks (E : ZEv) (M : ZMem) (K : ZMem → Prop) (hk : zOk (f_X12_blanks M) K) : zCon lyR E yX12_blanks cX12_blanks 1 none 1 [zrf E 0] M (zRv K) := by
  refine zcon_of (L0 := [(0, zrf E 0)]) (by decide) rfl (Nat.le_of_ble_eq_true rfl) (fun G h => ?_)
  have h : zRu lyR E G (zRv K) cX12_blanks RX12 1 none 1 := h
  unfold f_X12_blanks at hk
  refine w_X12_blanks_L0 h M (zOk_mono (zOk_bind hk) (fun e0 hk => ?_))
  have hk := zOk_some hk
  exact zr_vret h dX12_blanks_22 ⟨rfl, hk⟩
theorem dX12_starts_0 : decode cX12_starts 0 = .ok (.aload_n 0, 1) := by decide +kernel
theorem dX12_starts_1 : decode cX12_starts 1 = .ok (.iconst 0, 1) := by decide +kernel
theorem dX12_starts_2 : decode cX12_starts 2 = .ok (.putfield 113, 3) := by decide +kernel
theorem dX12_starts_5 : decode cX12_starts 5 = .ok (.aload_n 0, 1) := by decide +kernel
theorem dX12_starts_6 : decode cX12_starts 6 = .ok (.iconst (-1), 1) := by decide +kernel
theorem dX12_starts_7 : decode cX12_starts 7 = .ok (.putfield 116, 3) := by decide +kernel
theorem dX12_starts_10 : decode cX12_starts 10 = .ok (.return_, 1) := by decide +kernel
noncomputable def f_X12_starts (M : ZMem) : Option ZMem := zbnd (zstI M 0 2 (zI 0)) (fun M_2 => zbnd (zstI M_2 0 3 (zI (-1))) (fun M_7 => some M_7))
set_option maxRecDepth 100000 in
set_option maxHeartbeats 4000000 in
theorem c_X12_starts (E : ZEv) (M : ZMem) (K : ZMem → Prop) (hk : zOk (f_X12_starts M) K) : zCon lyR E yX12_starts cX12_starts 1 none 0 [zrf E 0] M (zRv K) := by
  refine zcon_of (L0 := [(0, zrf E 0)]) (by decide) rfl (Nat.le_of_ble_eq_true rfl) (fun G h => ?_)
  have h : zRu lyR E G (zRv K) cX12_starts RX12 1 none 0 := h
  unfold f_X12_starts at hk
  refine zr_aload_n h dX12_starts_0 0 rfl rfl ?_
  refine zr_iconst (v := (zI 0)) h dX12_starts_1 rfl ?_
  refine zr_putI h zfp_X12_113 lR_0 rfl dX12_starts_2 ?_
  refine zr_mem (fun M_2 eM => ?_)
  have hk := zOk_bnd eM hk
  refine zr_aload_n h dX12_starts_5 0 rfl rfl ?_
  refine zr_iconst (v := (zI (-1))) h dX12_starts_6 rfl ?_
  refine zr_putI h zfp_X12_116 lR_0 rfl dX12_starts_7 ?_
  refine zr_mem (fun M_7 eM => ?_)
  have hk := zOk_bnd eM hk
  have hk := zOk_some hk
  exact zr_vret h dX12_starts_10 ⟨rfl, hk⟩
theorem dX12_numberTaken_0 : decode cX12_numberTaken 0 = .ok (.aload_n 0, 1) := by decide +kernel
theorem dX12_numberTaken_1 : decode cX12_numberTaken 1 = .ok (.invokevirtual 127, 3) := by decide +kernel
theorem dX12_numberTaken_4 : decode cX12_numberTaken 4 = .ok (.aload_n 0, 1) := by decide +kernel
theorem dX12_numberTaken_5 : decode cX12_numberTaken 5 = .ok (.getfield 113, 3) := by decide +kernel
theorem dX12_numberTaken_8 : decode cX12_numberTaken 8 = .ok (.istore_n 1, 1) := by decide +kernel
theorem dX12_numberTaken_9 : decode cX12_numberTaken 9 = .ok (.aload_n 0, 1) := by decide +kernel
theorem dX12_numberTaken_10 : decode cX12_numberTaken 10 = .ok (.invokevirtual 130, 3) := by decide +kernel
theorem dX12_numberTaken_13 : decode cX12_numberTaken 13 = .ok (.ifCond .ne 14, 3) := by decide +kernel
theorem dX12_numberTaken_16 : decode cX12_numberTaken 16 = .ok (.aload_n 0, 1) := by decide +kernel
theorem dX12_numberTaken_17 : decode cX12_numberTaken 17 = .ok (.iconst 1, 1) := by decide +kernel
theorem dX12_numberTaken_18 : decode cX12_numberTaken 18 = .ok (.aload_n 0, 1) := by decide +kernel
theorem dX12_numberTaken_19 : decode cX12_numberTaken 19 = .ok (.getfield 113, 3) := by decide +kernel
theorem dX12_numberTaken_22 : decode cX12_numberTaken 22 = .ok (.invokevirtual 134, 3) := by decide +kernel
theorem dX12_numberTaken_25 : decode cX12_numberTaken 25 = .ok (.iconst 0, 1) := by decide +kernel
theorem dX12_numberTaken_26 : decode cX12_numberTaken 26 = .ok (.ireturn, 1) := by decide +kernel
theorem dX12_numberTaken_27 : decode cX12_numberTaken 27 = .ok (.iconst 0, 1) := by decide +kernel
theorem dX12_numberTaken_28 : decode cX12_numberTaken 28 = .ok (.istore_n 2, 1) := by decide +kernel
theorem dX12_numberTaken_29 : decode cX12_numberTaken 29 = .ok (.aload_n 0, 1) := by decide +kernel
theorem dX12_numberTaken_30 : decode cX12_numberTaken 30 = .ok (.invokevirtual 130, 3) := by decide +kernel
theorem dX12_numberTaken_33 : decode cX12_numberTaken 33 = .ok (.ifCond .eq 35, 3) := by decide +kernel
theorem dX12_numberTaken_36 : decode cX12_numberTaken 36 = .ok (.sipush 1000, 3) := by decide +kernel
theorem dX12_numberTaken_39 : decode cX12_numberTaken 39 = .ok (.bipush 10, 2) := by decide +kernel
theorem dX12_numberTaken_41 : decode cX12_numberTaken 41 = .ok (.iload_n 2, 1) := by decide +kernel
theorem dX12_numberTaken_42 : decode cX12_numberTaken 42 = .ok (.imul, 1) := by decide +kernel
theorem dX12_numberTaken_43 : decode cX12_numberTaken 43 = .ok (.aload_n 0, 1) := by decide +kernel
theorem dX12_numberTaken_44 : decode cX12_numberTaken 44 = .ok (.invokevirtual 119, 3) := by decide +kernel
theorem dX12_numberTaken_47 : decode cX12_numberTaken 47 = .ok (.iadd, 1) := by decide +kernel
theorem dX12_numberTaken_48 : decode cX12_numberTaken 48 = .ok (.bipush 48, 2) := by decide +kernel
theorem dX12_numberTaken_50 : decode cX12_numberTaken 50 = .ok (.isub, 1) := by decide +kernel
theorem dX12_numberTaken_51 : decode cX12_numberTaken 51 = .ok (.invokestatic 138, 3) := by decide +kernel
theorem dX12_numberTaken_54 : decode cX12_numberTaken 54 = .ok (.istore_n 2, 1) := by decide +kernel
theorem dX12_numberTaken_55 : decode cX12_numberTaken 55 = .ok (.aload_n 0, 1) := by decide +kernel
theorem dX12_numberTaken_56 : decode cX12_numberTaken 56 = .ok (.dup, 1) := by decide +kernel
theorem dX12_numberTaken_57 : decode cX12_numberTaken 57 = .ok (.getfield 113, 3) := by decide +kernel
theorem dX12_numberTaken_60 : decode cX12_numberTaken 60 = .ok (.iconst 1, 1) := by decide +kernel
theorem dX12_numberTaken_61 : decode cX12_numberTaken 61 = .ok (.iadd, 1) := by decide +kernel
theorem dX12_numberTaken_62 : decode cX12_numberTaken 62 = .ok (.putfield 113, 3) := by decide +kernel
theorem dX12_numberTaken_65 : decode cX12_numberTaken 65 = .ok (.goto (-36), 3) := by decide +kernel
theorem dX12_numberTaken_68 : decode cX12_numberTaken 68 = .ok (.iload_n 2, 1) := by decide +kernel
theorem dX12_numberTaken_69 : decode cX12_numberTaken 69 = .ok (.bipush 31, 2) := by decide +kernel
theorem dX12_numberTaken_71 : decode cX12_numberTaken 71 = .ok (.if_icmp .le 9, 3) := by decide +kernel
theorem dX12_numberTaken_74 : decode cX12_numberTaken 74 = .ok (.aload_n 0, 1) := by decide +kernel
theorem dX12_numberTaken_75 : decode cX12_numberTaken 75 = .ok (.iconst 2, 1) := by decide +kernel
theorem dX12_numberTaken_76 : decode cX12_numberTaken 76 = .ok (.iload_n 1, 1) := by decide +kernel
theorem dX12_numberTaken_77 : decode cX12_numberTaken 77 = .ok (.invokevirtual 134, 3) := by decide +kernel
theorem dX12_numberTaken_80 : decode cX12_numberTaken 80 = .ok (.iload_n 2, 1) := by decide +kernel
theorem dX12_numberTaken_81 : decode cX12_numberTaken 81 = .ok (.ireturn, 1) := by decide +kernel
noncomputable def f_X12_numberTaken_L29 (x1 : Int32) (s : (ZMem × Int32)) : Option ((ZMem × Int32) ⊕ (ZMem × Int32)) := zbind (f_X12_isDigit s.1) (fun r_30 => if r_30 = (zI 0) then some (.inr (s.1, s.2)) else zbind (f_X12_sign s.1) (fun r_44 => zbnd (if ((((zI 10) * s.2) + r_44) - (zI 48)) < (zI 1000) then ((((zI 10) * s.2) + r_44) - (zI 48)) else (zI 1000)) (fun x2_54 => zbnd (zstI s.1 0 2 ((s.1.1 0 2) + (zI 1))) (fun M_62 => some (.inl (M_62, x2_54))))))
set_option maxRecDepth 100000 in
set_option maxHeartbeats 4000000 in
theorem w_X12_numberTaken_L29 {E : ZEv} {G : ZG} {K : (ZMem × Int32) → Prop} (h : zRu lyR E G (zRm K) cX12_numberTaken RX12 3 (some .int) 2) (x1 : Int32) (s : (ZMem × Int32)) (hk : zOk (zloop (f_X12_numberTaken_L29 x1) s) (fun e => G e.1 68 [(0, zrf E 0), (1, .int x1), (2, .int e.2)] [])) : G s.1 29 [(0, zrf E 0), (1, .int x1), (2, .int s.2)] [] := by
  refine zloop_walk (P := fun s => G s.1 29 [(0, zrf E 0), (1, .int x1), (2, .int s.2)] []) hk (fun s hk => ?_)
  unfold f_X12_numberTaken_L29 at hk
  refine zr_aload_n h dX12_numberTaken_29 0 rfl rfl ?_
  refine zr_callVp h lR_0 zcw_X12_130 (by decide) (c_X12_isDigit E s.1 _ (zOk_bind hk)) rfl rfl (Nat.le_of_ble_eq_true rfl) dX12_numberTaken_30 (fun r_30 hk => ?_)
  refine zr_if_eq (tgt := 68) h dX12_numberTaken_33 (by decide) (fun c => ?_) (fun c => ?_)
  · have hk := zOk_t c hk
    have hk := zOk_some hk
    exact zr_weak h [0, 1, 2] rfl hk
  · have hk := zOk_f c hk
    refine zr_sipush (v := (zI 1000)) h dX12_numberTaken_36 (by decide) ?_
    refine zr_bipush (v := (zI 10)) h dX12_numberTaken_39 (by decide) ?_
    refine zr_iload_n h dX12_numberTaken_41 2 rfl rfl ?_
    refine zr_imul h dX12_numberTaken_42 ?_
    refine zr_aload_n h dX12_numberTaken_43 0 rfl rfl ?_
    refine zr_callVp h lR_0 zcw_X12_119 (by decide) (c_X12_sign E s.1 _ (zOk_bind hk)) rfl rfl (Nat.le_of_ble_eq_true rfl) dX12_numberTaken_44 (fun r_44 hk => ?_)
    refine zr_iadd h dX12_numberTaken_47 ?_
    refine zr_bipush (v := (zI 48)) h dX12_numberTaken_48 (by decide) ?_
    refine zr_isub h dX12_numberTaken_50 ?_
    refine zr_mmin h (zm_15 _ (List.mem_of_getElem? (i := 21) rfl)) (zm_12 _ (List.mem_of_getElem? (i := 11) rfl)) (zm_12 _ (List.mem_of_getElem? (i := 12) rfl)) (zm_12 _ (List.mem_of_getElem? (i := 13) rfl)) (Nat.le_of_ble_eq_true rfl) dX12_numberTaken_51 ?_
    refine zr_topi (fun x2_54 ex => ?_)
    have hk := zOk_bnd ex hk
    refine zr_istore_n (L' := [(0, zrf E 0), (1, .int x1), (2, .int x2_54)]) h [1, 2, 0] dX12_numberTaken_54 rfl (by decide) rfl ?_
    refine zr_aload_n h dX12_numberTaken_55 0 rfl rfl ?_
    refine zr_dup h dX12_numberTaken_56 rfl ?_
    refine zr_getI h zfo_X12_113 lR_0 rfl dX12_numberTaken_57 ?_
    refine zr_iconst (v := (zI 1)) h dX12_numberTaken_60 rfl ?_
    refine zr_iadd h dX12_numberTaken_61 ?_
    refine zr_putI h zfp_X12_113 lR_0 rfl dX12_numberTaken_62 ?_
    refine zr_mem (fun M_62 eM => ?_)
    have hk := zOk_bnd eM hk
    refine zr_goto (tgt := 29) h dX12_numberTaken_65 (by decide) ?_
    have hk := zOk_some hk
    exact zr_weak h [0, 1, 2] rfl hk
noncomputable def f_X12_numberTaken (M : ZMem) : Option (ZMem × Int32) := zbind (f_X12_blanks M) (fun M_1 => zbnd (M_1.1 0 2) (fun x1_8 => zbind (f_X12_isDigit M_1) (fun r_10 => if r_10 = (zI 0) then zbind (f_X12_fails M_1 (zI 1) (M_1.1 0 2)) (fun M_22 => some (M_22, (zI 0))) else zbind (zloop (f_X12_numberTaken_L29 x1_8) (M_1, (zI 0))) (fun e29 => if e29.2 ≤ (zI 31) then some (e29.1, e29.2) else zbind (f_X12_fails e29.1 (zI 2) x1_8) (fun M_77 => some (M_77, e29.2))))))
set_option maxRecDepth 100000 in
set_option maxHeartbeats 4000000 in
theorem c_X12_numberTaken (E : ZEv) (M : ZMem) (K : ZMem × Int32 → Prop) (hk : zOk (f_X12_numberTaken M) K) : zCon lyR E yX12_numberTaken cX12_numberTaken 3 (some .int) 2 [zrf E 0] M (zRm K) := by
  refine zcon_of (L0 := [(0, zrf E 0)]) (by decide) rfl (Nat.le_of_ble_eq_true rfl) (fun G h => ?_)
  have h : zRu lyR E G (zRm K) cX12_numberTaken RX12 3 (some .int) 2 := h
  unfold f_X12_numberTaken at hk
  refine zr_aload_n h dX12_numberTaken_0 0 rfl rfl ?_
  refine zr_callVv h lR_0 zcw_X12_127 (by decide) (c_X12_blanks E M _ (zOk_bind hk)) rfl rfl (Nat.le_of_ble_eq_true rfl) dX12_numberTaken_1 (fun M_1 hk => ?_)
  refine zr_aload_n h dX12_numberTaken_4 0 rfl rfl ?_
  refine zr_getI h zfo_X12_113 lR_0 rfl dX12_numberTaken_5 ?_
  refine zr_topi (fun x1_8 ex => ?_)
  have hk := zOk_bnd ex hk
  refine zr_istore_n (L' := [(0, zrf E 0), (1, .int x1_8)]) h [1, 0] dX12_numberTaken_8 rfl (by decide) rfl ?_
  refine zr_aload_n h dX12_numberTaken_9 0 rfl rfl ?_
  refine zr_callVp h lR_0 zcw_X12_130 (by decide) (c_X12_isDigit E M_1 _ (zOk_bind hk)) rfl rfl (Nat.le_of_ble_eq_true rfl) dX12_numberTaken_10 (fun r_10 hk => ?_)
  refine zr_if_ne (tgt := 27) h dX12_numberTaken_13 (by decide) (fun c => ?_) (fun c => ?_)
  · have hk := zOk_t c hk
    refine zr_aload_n h dX12_numberTaken_16 0 rfl rfl ?_
    refine zr_iconst (v := (zI 1)) h dX12_numberTaken_17 rfl ?_
    refine zr_aload_n h dX12_numberTaken_18 0 rfl rfl ?_
    refine zr_getI h zfo_X12_113 lR_0 rfl dX12_numberTaken_19 ?_
    refine zr_callVv h lR_0 zcw_X12_134 (by decide) (c_X12_fails E M_1 (zI 1) (M_1.1 0 2) _ (zOk_bind hk)) rfl rfl (Nat.le_of_ble_eq_true rfl) dX12_numberTaken_22 (fun M_22 hk => ?_)
    refine zr_iconst (v := (zI 0)) h dX12_numberTaken_25 rfl ?_
    have hk := zOk_some hk
    exact zr_iret h dX12_numberTaken_26 ⟨_, rfl, hk⟩
  · have hk := zOk_f c hk
    refine zr_iconst (v := (zI 0)) h dX12_numberTaken_27 rfl ?_
    refine zr_istore_n (L' := [(0, zrf E 0), (1, .int x1_8), (2, .int (zI 0))]) h [1, 2, 0] dX12_numberTaken_28 rfl (by decide) rfl ?_
    refine w_X12_numberTaken_L29 h x1_8 (M_1, (zI 0)) (zOk_mono (zOk_bind hk) (fun e29 hk => ?_))
    refine zr_iload_n h dX12_numberTaken_68 2 rfl rfl ?_
    refine zr_bipush (v := (zI 31)) h dX12_numberTaken_69 (by decide) ?_
    refine zr_icmp_le (tgt := 80) h dX12_numberTaken_71 (by decide) (fun c => ?_) (fun c => ?_)
    · have hk := zOk_t c hk
      refine zr_iload_n h dX12_numberTaken_80 2 rfl rfl ?_
      have hk := zOk_some hk
      exact zr_iret h dX12_numberTaken_81 ⟨_, rfl, hk⟩
    · have hk := zOk_f c hk
      refine zr_aload_n h dX12_numberTaken_74 0 rfl rfl ?_
      refine zr_iconst (v := (zI 2)) h dX12_numberTaken_75 rfl ?_
      refine zr_iload_n h dX12_numberTaken_76 1 rfl rfl ?_
      refine zr_callVv h lR_0 zcw_X12_134 (by decide) (c_X12_fails E e29.1 (zI 2) x1_8 _ (zOk_bind hk)) rfl rfl (Nat.le_of_ble_eq_true rfl) dX12_numberTaken_77 (fun M_77 hk => ?_)
      refine zr_iload_n h dX12_numberTaken_80 2 rfl rfl ?_
      have hk := zOk_some hk
      exact zr_iret h dX12_numberTaken_81 ⟨_, rfl, hk⟩
theorem dX12_isTold_0 : decode cX12_isTold 0 = .ok (.iconst 0, 1) := by decide +kernel
theorem dX12_isTold_1 : decode cX12_isTold 1 = .ok (.istore_n 1, 1) := by decide +kernel
theorem dX12_isTold_2 : decode cX12_isTold 2 = .ok (.iload_n 1, 1) := by decide +kernel
theorem dX12_isTold_3 : decode cX12_isTold 3 = .ok (.aload_n 0, 1) := by decide +kernel
theorem dX12_isTold_4 : decode cX12_isTold 4 = .ok (.getfield 144, 3) := by decide +kernel
theorem dX12_isTold_7 : decode cX12_isTold 7 = .ok (.if_icmp .ge 66, 3) := by decide +kernel
theorem dX12_isTold_10 : decode cX12_isTold 10 = .ok (.iconst 1, 1) := by decide +kernel
theorem dX12_isTold_11 : decode cX12_isTold 11 = .ok (.istore_n 2, 1) := by decide +kernel
theorem dX12_isTold_12 : decode cX12_isTold 12 = .ok (.iconst 0, 1) := by decide +kernel
theorem dX12_isTold_13 : decode cX12_isTold 13 = .ok (.istore_n 3, 1) := by decide +kernel
theorem dX12_isTold_14 : decode cX12_isTold 14 = .ok (.iload_n 3, 1) := by decide +kernel
theorem dX12_isTold_15 : decode cX12_isTold 15 = .ok (.iconst 5, 1) := by decide +kernel
theorem dX12_isTold_16 : decode cX12_isTold 16 = .ok (.if_icmp .ge 45, 3) := by decide +kernel
theorem dX12_isTold_19 : decode cX12_isTold 19 = .ok (.iload_n 2, 1) := by decide +kernel
theorem dX12_isTold_20 : decode cX12_isTold 20 = .ok (.ifCond .eq 33, 3) := by decide +kernel
theorem dX12_isTold_23 : decode cX12_isTold 23 = .ok (.aload_n 0, 1) := by decide +kernel
theorem dX12_isTold_24 : decode cX12_isTold 24 = .ok (.getfield 17, 3) := by decide +kernel
theorem dX12_isTold_27 : decode cX12_isTold 27 = .ok (.iconst 5, 1) := by decide +kernel
theorem dX12_isTold_28 : decode cX12_isTold 28 = .ok (.iload_n 1, 1) := by decide +kernel
theorem dX12_isTold_29 : decode cX12_isTold 29 = .ok (.imul, 1) := by decide +kernel
theorem dX12_isTold_30 : decode cX12_isTold 30 = .ok (.iload_n 3, 1) := by decide +kernel
theorem dX12_isTold_31 : decode cX12_isTold 31 = .ok (.iadd, 1) := by decide +kernel
theorem dX12_isTold_32 : decode cX12_isTold 32 = .ok (.iaload, 1) := by decide +kernel
theorem dX12_isTold_33 : decode cX12_isTold 33 = .ok (.aload_n 0, 1) := by decide +kernel
theorem dX12_isTold_34 : decode cX12_isTold 34 = .ok (.getfield 17, 3) := by decide +kernel
theorem dX12_isTold_37 : decode cX12_isTold 37 = .ok (.iconst 5, 1) := by decide +kernel
theorem dX12_isTold_38 : decode cX12_isTold 38 = .ok (.aload_n 0, 1) := by decide +kernel
theorem dX12_isTold_39 : decode cX12_isTold 39 = .ok (.getfield 144, 3) := by decide +kernel
theorem dX12_isTold_42 : decode cX12_isTold 42 = .ok (.imul, 1) := by decide +kernel
theorem dX12_isTold_43 : decode cX12_isTold 43 = .ok (.iload_n 3, 1) := by decide +kernel
theorem dX12_isTold_44 : decode cX12_isTold 44 = .ok (.iadd, 1) := by decide +kernel
theorem dX12_isTold_45 : decode cX12_isTold 45 = .ok (.iaload, 1) := by decide +kernel
theorem dX12_isTold_46 : decode cX12_isTold 46 = .ok (.if_icmp .ne 7, 3) := by decide +kernel
theorem dX12_isTold_49 : decode cX12_isTold 49 = .ok (.iconst 1, 1) := by decide +kernel
theorem dX12_isTold_50 : decode cX12_isTold 50 = .ok (.goto 4, 3) := by decide +kernel
theorem dX12_isTold_53 : decode cX12_isTold 53 = .ok (.iconst 0, 1) := by decide +kernel
theorem dX12_isTold_54 : decode cX12_isTold 54 = .ok (.istore_n 2, 1) := by decide +kernel
theorem dX12_isTold_55 : decode cX12_isTold 55 = .ok (.iinc 3 1, 3) := by decide +kernel
theorem dX12_isTold_58 : decode cX12_isTold 58 = .ok (.goto (-44), 3) := by decide +kernel
theorem dX12_isTold_61 : decode cX12_isTold 61 = .ok (.iload_n 2, 1) := by decide +kernel
theorem dX12_isTold_62 : decode cX12_isTold 62 = .ok (.ifCond .eq 5, 3) := by decide +kernel
theorem dX12_isTold_65 : decode cX12_isTold 65 = .ok (.iconst 1, 1) := by decide +kernel
theorem dX12_isTold_66 : decode cX12_isTold 66 = .ok (.ireturn, 1) := by decide +kernel
theorem dX12_isTold_67 : decode cX12_isTold 67 = .ok (.iinc 1 1, 3) := by decide +kernel
theorem dX12_isTold_70 : decode cX12_isTold 70 = .ok (.goto (-68), 3) := by decide +kernel
theorem dX12_isTold_73 : decode cX12_isTold 73 = .ok (.iconst 0, 1) := by decide +kernel
theorem dX12_isTold_74 : decode cX12_isTold 74 = .ok (.ireturn, 1) := by decide +kernel
noncomputable def f_X12_isTold_L14 (M : ZMem) (x1 : Int32) (s : (Int32 × Int32)) : Option ((Int32 × Int32) ⊕ (Int32)) := if (zI 5) ≤ s.2 then some (.inr s.1) else if s.1 = (zI 0) then zbnd (s.2 + (zI 1)) (fun x3_55 => some (.inl ((zI 0), x3_55))) else zchk (zin (((zI 5) * x1) + s.2) 105) (zchk (zin (((zI 5) * (M.1 0 5)) + s.2) 105) (if (M.1 3 (zix (((zI 5) * x1) + s.2))) = (M.1 3 (zix (((zI 5) * (M.1 0 5)) + s.2))) then zbnd (s.2 + (zI 1)) (fun x3_55 => some (.inl ((zI 1), x3_55))) else zbnd (s.2 + (zI 1)) (fun x3_55 => some (.inl ((zI 0), x3_55)))))
set_option maxRecDepth 100000 in
set_option maxHeartbeats 4000000 in
theorem w_X12_isTold_L14 {E : ZEv} {G : ZG} {K : Int32 → Prop} (M : ZMem) (h : zRu lyR E G (zRp M K) cX12_isTold RX12 4 (some .boolean) 0) (x1 : Int32) (s : (Int32 × Int32)) (hk : zOk (zloop (f_X12_isTold_L14 M x1) s) (fun e => G M 61 [(0, zrf E 0), (1, .int x1), (2, .int e)] [])) : G M 14 [(0, zrf E 0), (1, .int x1), (2, .int s.1), (3, .int s.2)] [] := by
  refine zloop_walk (P := fun s => G M 14 [(0, zrf E 0), (1, .int x1), (2, .int s.1), (3, .int s.2)] []) hk (fun s hk => ?_)
  unfold f_X12_isTold_L14 at hk
  refine zr_iload_n h dX12_isTold_14 3 rfl rfl ?_
  refine zr_iconst (v := (zI 5)) h dX12_isTold_15 rfl ?_
  refine zr_icmp_ge (tgt := 61) h dX12_isTold_16 (by decide) (fun c => ?_) (fun c => ?_)
  · have hk := zOk_t c hk
    have hk := zOk_some hk
    exact zr_weak h [0, 1, 2] rfl hk
  · have hk := zOk_f c hk
    refine zr_iload_n h dX12_isTold_19 2 rfl rfl ?_
    refine zr_if_eq (tgt := 53) h dX12_isTold_20 (by decide) (fun c => ?_) (fun c => ?_)
    · have hk := zOk_t c hk
      refine zr_iconst (v := (zI 0)) h dX12_isTold_53 rfl ?_
      refine zr_istore_n (L' := [(0, zrf E 0), (1, .int x1), (2, .int (zI 0)), (3, .int s.2)]) h [1, 2, 0, 3] dX12_isTold_54 rfl (by decide) rfl ?_
      obtain ⟨x3_55, ex⟩ : ∃ y : Int32, y = s.2 + (zI 1) := ⟨_, rfl⟩
      have hk := zOk_bnd ex hk
      refine zr_iinc (v := x3_55) (L' := [(0, zrf E 0), (1, .int x1), (2, .int (zI 0)), (3, .int x3_55)]) h 3 [1, 2, 3, 0] dX12_isTold_55 rfl (by rw [ex]; rfl) (by decide) rfl ?_
      refine zr_goto (tgt := 14) h dX12_isTold_58 (by decide) ?_
      have hk := zOk_some hk
      exact zr_weak h [0, 1, 2, 3] rfl hk
    · have hk := zOk_f c hk
      refine zr_aload_n h dX12_isTold_23 0 rfl rfl ?_
      refine zr_getR h zfo_X12_17 lR_0 rfl dX12_isTold_24 ?_
      refine zr_iconst (v := (zI 5)) h dX12_isTold_27 rfl ?_
      refine zr_iload_n h dX12_isTold_28 1 rfl rfl ?_
      refine zr_imul h dX12_isTold_29 ?_
      refine zr_iload_n h dX12_isTold_30 3 rfl rfl ?_
      refine zr_iadd h dX12_isTold_31 ?_
      have hb := zOk_chk hk
      have hk := hb.2
      refine zr_iald h lR_3 hb.1 dX12_isTold_32 ?_
      refine zr_aload_n h dX12_isTold_33 0 rfl rfl ?_
      refine zr_getR h zfo_X12_17 lR_0 rfl dX12_isTold_34 ?_
      refine zr_iconst (v := (zI 5)) h dX12_isTold_37 rfl ?_
      refine zr_aload_n h dX12_isTold_38 0 rfl rfl ?_
      refine zr_getI h zfo_X12_144 lR_0 rfl dX12_isTold_39 ?_
      refine zr_imul h dX12_isTold_42 ?_
      refine zr_iload_n h dX12_isTold_43 3 rfl rfl ?_
      refine zr_iadd h dX12_isTold_44 ?_
      have hb := zOk_chk hk
      have hk := hb.2
      refine zr_iald h lR_3 hb.1 dX12_isTold_45 ?_
      refine zr_icmp_ne (tgt := 53) h dX12_isTold_46 (by decide) (fun c => ?_) (fun c => ?_)
      · have hk := zOk_t c hk
        refine zr_iconst (v := (zI 1)) h dX12_isTold_49 rfl ?_
        refine zr_goto (tgt := 54) h dX12_isTold_50 (by decide) ?_
        refine zr_istore_n (L' := [(0, zrf E 0), (1, .int x1), (2, .int (zI 1)), (3, .int s.2)]) h [1, 2, 0, 3] dX12_isTold_54 rfl (by decide) rfl ?_
        obtain ⟨x3_55, ex⟩ : ∃ y : Int32, y = s.2 + (zI 1) := ⟨_, rfl⟩
        have hk := zOk_bnd ex hk
        refine zr_iinc (v := x3_55) (L' := [(0, zrf E 0), (1, .int x1), (2, .int (zI 1)), (3, .int x3_55)]) h 3 [1, 2, 3, 0] dX12_isTold_55 rfl (by rw [ex]; rfl) (by decide) rfl ?_
        refine zr_goto (tgt := 14) h dX12_isTold_58 (by decide) ?_
        have hk := zOk_some hk
        exact zr_weak h [0, 1, 2, 3] rfl hk
      · have hk := zOk_f c hk
        refine zr_iconst (v := (zI 0)) h dX12_isTold_53 rfl ?_
        refine zr_istore_n (L' := [(0, zrf E 0), (1, .int x1), (2, .int (zI 0)), (3, .int s.2)]) h [1, 2, 0, 3] dX12_isTold_54 rfl (by decide) rfl ?_
        obtain ⟨x3_55, ex⟩ : ∃ y : Int32, y = s.2 + (zI 1) := ⟨_, rfl⟩
        have hk := zOk_bnd ex hk
        refine zr_iinc (v := x3_55) (L' := [(0, zrf E 0), (1, .int x1), (2, .int (zI 0)), (3, .int x3_55)]) h 3 [1, 2, 3, 0] dX12_isTold_55 rfl (by rw [ex]; rfl) (by decide) rfl ?_
        refine zr_goto (tgt := 14) h dX12_isTold_58 (by decide) ?_
        have hk := zOk_some hk
        exact zr_weak h [0, 1, 2, 3] rfl hk
noncomputable def f_X12_isTold_L2 (M : ZMem) (s : (Int32)) : Option ((Int32) ⊕ ((Unit) ⊕ Int32)) := if (M.1 0 5) ≤ s then some (.inr (.inl ())) else zbind (zloop (f_X12_isTold_L14 M s) ((zI 1), (zI 0))) (fun e14 => if e14 = (zI 0) then zbnd (s + (zI 1)) (fun x1_67 => some (.inl x1_67)) else some (.inr (.inr (zI 1))))
set_option maxRecDepth 100000 in
set_option maxHeartbeats 4000000 in
theorem w_X12_isTold_L2 {E : ZEv} {G : ZG} {K : Int32 → Prop} (M : ZMem) (h : zRu lyR E G (zRp M K) cX12_isTold RX12 4 (some .boolean) 0) (s : (Int32)) (hk : zOk (zloop (f_X12_isTold_L2 M) s) (fun e => zsel e (fun e0 => G M 73 [] []) (fun f0 => K f0))) : G M 2 [(0, zrf E 0), (1, .int s)] [] := by
  refine zloop_walk (P := fun s => G M 2 [(0, zrf E 0), (1, .int s)] []) hk (fun s hk => ?_)
  unfold f_X12_isTold_L2 at hk
  refine zr_iload_n h dX12_isTold_2 1 rfl rfl ?_
  refine zr_aload_n h dX12_isTold_3 0 rfl rfl ?_
  refine zr_getI h zfo_X12_144 lR_0 rfl dX12_isTold_4 ?_
  refine zr_icmp_ge (tgt := 73) h dX12_isTold_7 (by decide) (fun c => ?_) (fun c => ?_)
  · have hk := zOk_t c hk
    have hk := zOk_some hk
    exact zr_weak h [] rfl hk
  · have hk := zOk_f c hk
    refine zr_iconst (v := (zI 1)) h dX12_isTold_10 rfl ?_
    refine zr_istore_n (L' := [(0, zrf E 0), (1, .int s), (2, .int (zI 1))]) h [1, 2, 0] dX12_isTold_11 rfl (by decide) rfl ?_
    refine zr_iconst (v := (zI 0)) h dX12_isTold_12 rfl ?_
    refine zr_istore_n (L' := [(0, zrf E 0), (1, .int s), (2, .int (zI 1)), (3, .int (zI 0))]) h [1, 2, 3, 0] dX12_isTold_13 rfl (by decide) rfl ?_
    refine w_X12_isTold_L14 M h s ((zI 1), (zI 0)) (zOk_mono (zOk_bind hk) (fun e14 hk => ?_))
    refine zr_iload_n h dX12_isTold_61 2 rfl rfl ?_
    refine zr_if_eq (tgt := 67) h dX12_isTold_62 (by decide) (fun c => ?_) (fun c => ?_)
    · have hk := zOk_t c hk
      obtain ⟨x1_67, ex⟩ : ∃ y : Int32, y = s + (zI 1) := ⟨_, rfl⟩
      have hk := zOk_bnd ex hk
      refine zr_iinc (v := x1_67) (L' := [(0, zrf E 0), (1, .int x1_67)]) h 1 [1, 0] dX12_isTold_67 rfl (by rw [ex]; rfl) (by decide) rfl ?_
      refine zr_goto (tgt := 2) h dX12_isTold_70 (by decide) ?_
      have hk := zOk_some hk
      exact zr_weak h [0, 1] rfl hk
    · have hk := zOk_f c hk
      refine zr_iconst (v := (zI 1)) h dX12_isTold_65 rfl ?_
      have hk := zOk_some hk
      exact zr_zret h dX12_isTold_66 (by decide) ⟨rfl, _, rfl, hk⟩
noncomputable def f_X12_isTold (M : ZMem) : Option Int32 := zbind (zloop (f_X12_isTold_L2 M) (zI 0)) (fun e2 => zsel e2 (fun e2a => some (zI 0)) (fun e2b => some e2b))
set_option maxRecDepth 100000 in
set_option maxHeartbeats 4000000 in
theorem c_X12_isTold (E : ZEv) (M : ZMem) (K : Int32 → Prop) (hk : zOk (f_X12_isTold M) K) : zCon lyR E yX12_isTold cX12_isTold 4 (some .boolean) 0 [zrf E 0] M (zRp M K) := by
  refine zcon_of (L0 := [(0, zrf E 0)]) (by decide) rfl (Nat.le_of_ble_eq_true rfl) (fun G h => ?_)
  have h : zRu lyR E G (zRp M K) cX12_isTold RX12 4 (some .boolean) 0 := h
  unfold f_X12_isTold at hk
  refine zr_iconst (v := (zI 0)) h dX12_isTold_0 rfl ?_
  refine zr_istore_n (L' := [(0, zrf E 0), (1, .int (zI 0))]) h [1, 0] dX12_isTold_1 rfl (by decide) rfl ?_
  refine w_X12_isTold_L2 M h (zI 0) (zOk_mono (zOk_bind hk) (fun e2 hk => ?_))
  cases e2 with
  | inl e2a =>
    have hk := zOk_selL hk
    refine zr_iconst (v := (zI 0)) h dX12_isTold_73 rfl ?_
    have hk := zOk_some hk
    exact zr_zret h dX12_isTold_74 (by decide) ⟨rfl, _, rfl, hk⟩
  | inr e2b =>
    have hk := zOk_selR hk
    have hk := zOk_some hk
    exact hk
theorem dX12_readsForm_0 : decode cX12_readsForm 0 = .ok (.aload_n 0, 1) := by decide +kernel
theorem dX12_readsForm_1 : decode cX12_readsForm 1 = .ok (.getfield 113, 3) := by decide +kernel
theorem dX12_readsForm_4 : decode cX12_readsForm 4 = .ok (.istore_n 1, 1) := by decide +kernel
theorem dX12_readsForm_5 : decode cX12_readsForm 5 = .ok (.iconst 0, 1) := by decide +kernel
theorem dX12_readsForm_6 : decode cX12_readsForm 6 = .ok (.istore_n 2, 1) := by decide +kernel
theorem dX12_readsForm_7 : decode cX12_readsForm 7 = .ok (.iload_n 2, 1) := by decide +kernel
theorem dX12_readsForm_8 : decode cX12_readsForm 8 = .ok (.iconst 5, 1) := by decide +kernel
theorem dX12_readsForm_9 : decode cX12_readsForm 9 = .ok (.if_icmp .ge 48, 3) := by decide +kernel
theorem dX12_readsForm_12 : decode cX12_readsForm 12 = .ok (.aload_n 0, 1) := by decide +kernel
theorem dX12_readsForm_13 : decode cX12_readsForm 13 = .ok (.invokevirtual 147, 3) := by decide +kernel
theorem dX12_readsForm_16 : decode cX12_readsForm 16 = .ok (.ifCond .eq 41, 3) := by decide +kernel
theorem dX12_readsForm_19 : decode cX12_readsForm 19 = .ok (.aload_n 0, 1) := by decide +kernel
theorem dX12_readsForm_20 : decode cX12_readsForm 20 = .ok (.getfield 17, 3) := by decide +kernel
theorem dX12_readsForm_23 : decode cX12_readsForm 23 = .ok (.iconst 5, 1) := by decide +kernel
theorem dX12_readsForm_24 : decode cX12_readsForm 24 = .ok (.aload_n 0, 1) := by decide +kernel
theorem dX12_readsForm_25 : decode cX12_readsForm 25 = .ok (.getfield 144, 3) := by decide +kernel
theorem dX12_readsForm_28 : decode cX12_readsForm 28 = .ok (.imul, 1) := by decide +kernel
theorem dX12_readsForm_29 : decode cX12_readsForm 29 = .ok (.iload_n 2, 1) := by decide +kernel
theorem dX12_readsForm_30 : decode cX12_readsForm 30 = .ok (.iadd, 1) := by decide +kernel
theorem dX12_readsForm_31 : decode cX12_readsForm 31 = .ok (.aload_n 0, 1) := by decide +kernel
theorem dX12_readsForm_32 : decode cX12_readsForm 32 = .ok (.invokevirtual 150, 3) := by decide +kernel
theorem dX12_readsForm_35 : decode cX12_readsForm 35 = .ok (.iastore, 1) := by decide +kernel
theorem dX12_readsForm_36 : decode cX12_readsForm 36 = .ok (.aload_n 0, 1) := by decide +kernel
theorem dX12_readsForm_37 : decode cX12_readsForm 37 = .ok (.getfield 144, 3) := by decide +kernel
theorem dX12_readsForm_40 : decode cX12_readsForm 40 = .ok (.bipush 20, 2) := by decide +kernel
theorem dX12_readsForm_42 : decode cX12_readsForm 42 = .ok (.if_icmp .ne 9, 3) := by decide +kernel
theorem dX12_readsForm_45 : decode cX12_readsForm 45 = .ok (.aload_n 0, 1) := by decide +kernel
theorem dX12_readsForm_46 : decode cX12_readsForm 46 = .ok (.iconst 3, 1) := by decide +kernel
theorem dX12_readsForm_47 : decode cX12_readsForm 47 = .ok (.iload_n 1, 1) := by decide +kernel
theorem dX12_readsForm_48 : decode cX12_readsForm 48 = .ok (.invokevirtual 134, 3) := by decide +kernel
theorem dX12_readsForm_51 : decode cX12_readsForm 51 = .ok (.iinc 2 1, 3) := by decide +kernel
theorem dX12_readsForm_54 : decode cX12_readsForm 54 = .ok (.goto (-47), 3) := by decide +kernel
theorem dX12_readsForm_57 : decode cX12_readsForm 57 = .ok (.aload_n 0, 1) := by decide +kernel
theorem dX12_readsForm_58 : decode cX12_readsForm 58 = .ok (.invokevirtual 147, 3) := by decide +kernel
theorem dX12_readsForm_61 : decode cX12_readsForm 61 = .ok (.ifCond .eq 35, 3) := by decide +kernel
theorem dX12_readsForm_64 : decode cX12_readsForm 64 = .ok (.aload_n 0, 1) := by decide +kernel
theorem dX12_readsForm_65 : decode cX12_readsForm 65 = .ok (.invokevirtual 127, 3) := by decide +kernel
theorem dX12_readsForm_68 : decode cX12_readsForm 68 = .ok (.aload_n 0, 1) := by decide +kernel
theorem dX12_readsForm_69 : decode cX12_readsForm 69 = .ok (.invokevirtual 119, 3) := by decide +kernel
theorem dX12_readsForm_72 : decode cX12_readsForm 72 = .ok (.bipush 59, 2) := by decide +kernel
theorem dX12_readsForm_74 : decode cX12_readsForm 74 = .ok (.if_icmp .eq 12, 3) := by decide +kernel
theorem dX12_readsForm_77 : decode cX12_readsForm 77 = .ok (.aload_n 0, 1) := by decide +kernel
theorem dX12_readsForm_78 : decode cX12_readsForm 78 = .ok (.iconst 1, 1) := by decide +kernel
theorem dX12_readsForm_79 : decode cX12_readsForm 79 = .ok (.aload_n 0, 1) := by decide +kernel
theorem dX12_readsForm_80 : decode cX12_readsForm 80 = .ok (.getfield 113, 3) := by decide +kernel
theorem dX12_readsForm_83 : decode cX12_readsForm 83 = .ok (.invokevirtual 134, 3) := by decide +kernel
theorem dX12_readsForm_86 : decode cX12_readsForm 86 = .ok (.aload_n 0, 1) := by decide +kernel
theorem dX12_readsForm_87 : decode cX12_readsForm 87 = .ok (.dup, 1) := by decide +kernel
theorem dX12_readsForm_88 : decode cX12_readsForm 88 = .ok (.getfield 113, 3) := by decide +kernel
theorem dX12_readsForm_91 : decode cX12_readsForm 91 = .ok (.iconst 1, 1) := by decide +kernel
theorem dX12_readsForm_92 : decode cX12_readsForm 92 = .ok (.iadd, 1) := by decide +kernel
theorem dX12_readsForm_93 : decode cX12_readsForm 93 = .ok (.putfield 113, 3) := by decide +kernel
theorem dX12_readsForm_96 : decode cX12_readsForm 96 = .ok (.aload_n 0, 1) := by decide +kernel
theorem dX12_readsForm_97 : decode cX12_readsForm 97 = .ok (.invokevirtual 147, 3) := by decide +kernel
theorem dX12_readsForm_100 : decode cX12_readsForm 100 = .ok (.ifCond .eq 16, 3) := by decide +kernel
theorem dX12_readsForm_103 : decode cX12_readsForm 103 = .ok (.aload_n 0, 1) := by decide +kernel
theorem dX12_readsForm_104 : decode cX12_readsForm 104 = .ok (.invokevirtual 153, 3) := by decide +kernel
theorem dX12_readsForm_107 : decode cX12_readsForm 107 = .ok (.ifCond .eq 9, 3) := by decide +kernel
theorem dX12_readsForm_110 : decode cX12_readsForm 110 = .ok (.aload_n 0, 1) := by decide +kernel
theorem dX12_readsForm_111 : decode cX12_readsForm 111 = .ok (.iconst 4, 1) := by decide +kernel
theorem dX12_readsForm_112 : decode cX12_readsForm 112 = .ok (.iload_n 1, 1) := by decide +kernel
theorem dX12_readsForm_113 : decode cX12_readsForm 113 = .ok (.invokevirtual 134, 3) := by decide +kernel
theorem dX12_readsForm_116 : decode cX12_readsForm 116 = .ok (.aload_n 0, 1) := by decide +kernel
theorem dX12_readsForm_117 : decode cX12_readsForm 117 = .ok (.dup, 1) := by decide +kernel
theorem dX12_readsForm_118 : decode cX12_readsForm 118 = .ok (.getfield 144, 3) := by decide +kernel
theorem dX12_readsForm_121 : decode cX12_readsForm 121 = .ok (.iconst 1, 1) := by decide +kernel
theorem dX12_readsForm_122 : decode cX12_readsForm 122 = .ok (.iadd, 1) := by decide +kernel
theorem dX12_readsForm_123 : decode cX12_readsForm 123 = .ok (.putfield 144, 3) := by decide +kernel
theorem dX12_readsForm_126 : decode cX12_readsForm 126 = .ok (.return_, 1) := by decide +kernel
noncomputable def f_X12_readsForm_L7 (x1 : Int32) (s : (ZMem × Int32)) : Option ((ZMem × Int32) ⊕ (ZMem)) := if (zI 5) ≤ s.2 then some (.inr s.1) else zbind (f_X12_isRight s.1) (fun r_13 => if r_13 = (zI 0) then some (.inr s.1) else zbind (f_X12_numberTaken s.1) (fun r_32 => zchk (zin (((zI 5) * (s.1.1 0 5)) + s.2) 105) (zbnd (zstI r_32.1 3 (zix (((zI 5) * (s.1.1 0 5)) + s.2)) r_32.2) (fun M_35 => if (M_35.1 0 5) = (zI 20) then zbind (f_X12_fails M_35 (zI 3) x1) (fun M_48 => zbnd (s.2 + (zI 1)) (fun x2_51 => some (.inl (M_48, x2_51)))) else zbnd (s.2 + (zI 1)) (fun x2_51 => some (.inl (M_35, x2_51)))))))
set_option maxRecDepth 100000 in
set_option maxHeartbeats 4000000 in
theorem w_X12_readsForm_L7 {E : ZEv} {G : ZG} {K : ZMem → Prop} (h : zRu lyR E G (zRv K) cX12_readsForm RX12 3 none 3) (x1 : Int32) (s : (ZMem × Int32)) (hk : zOk (zloop (f_X12_readsForm_L7 x1) s) (fun e => G e 57 [(0, zrf E 0), (1, .int x1)] [])) : G s.1 7 [(0, zrf E 0), (1, .int x1), (2, .int s.2)] [] := by
  refine zloop_walk (P := fun s => G s.1 7 [(0, zrf E 0), (1, .int x1), (2, .int s.2)] []) hk (fun s hk => ?_)
  unfold f_X12_readsForm_L7 at hk
  refine zr_iload_n h dX12_readsForm_7 2 rfl rfl ?_
  refine zr_iconst (v := (zI 5)) h dX12_readsForm_8 rfl ?_
  refine zr_icmp_ge (tgt := 57) h dX12_readsForm_9 (by decide) (fun c => ?_) (fun c => ?_)
  · have hk := zOk_t c hk
    have hk := zOk_some hk
    exact zr_weak h [0, 1] rfl hk
  · have hk := zOk_f c hk
    refine zr_aload_n h dX12_readsForm_12 0 rfl rfl ?_
    refine zr_callVp h lR_0 zcw_X12_147 (by decide) (c_X12_isRight E s.1 _ (zOk_bind hk)) rfl rfl (Nat.le_of_ble_eq_true rfl) dX12_readsForm_13 (fun r_13 hk => ?_)
    refine zr_if_eq (tgt := 57) h dX12_readsForm_16 (by decide) (fun c => ?_) (fun c => ?_)
    · have hk := zOk_t c hk
      have hk := zOk_some hk
      exact zr_weak h [0, 1] rfl hk
    · have hk := zOk_f c hk
      refine zr_aload_n h dX12_readsForm_19 0 rfl rfl ?_
      refine zr_getR h zfo_X12_17 lR_0 rfl dX12_readsForm_20 ?_
      refine zr_iconst (v := (zI 5)) h dX12_readsForm_23 rfl ?_
      refine zr_aload_n h dX12_readsForm_24 0 rfl rfl ?_
      refine zr_getI h zfo_X12_144 lR_0 rfl dX12_readsForm_25 ?_
      refine zr_imul h dX12_readsForm_28 ?_
      refine zr_iload_n h dX12_readsForm_29 2 rfl rfl ?_
      refine zr_iadd h dX12_readsForm_30 ?_
      refine zr_aload_n h dX12_readsForm_31 0 rfl rfl ?_
      refine zr_callVm h lR_0 zcw_X12_150 (by decide) (c_X12_numberTaken E s.1 _ (zOk_bind hk)) rfl rfl (Nat.le_of_ble_eq_true rfl) dX12_readsForm_32 (fun r_32 hk => ?_)
      have hb := zOk_chk hk
      have hk := hb.2
      refine zr_iast h lR_3 hb.1 dX12_readsForm_35 ?_
      refine zr_mem (fun M_35 eM => ?_)
      have hk := zOk_bnd eM hk
      refine zr_aload_n h dX12_readsForm_36 0 rfl rfl ?_
      refine zr_getI h zfo_X12_144 lR_0 rfl dX12_readsForm_37 ?_
      refine zr_bipush (v := (zI 20)) h dX12_readsForm_40 (by decide) ?_
      refine zr_icmp_ne (tgt := 51) h dX12_readsForm_42 (by decide) (fun c => ?_) (fun c => ?_)
      · have hk := zOk_t c hk
        refine zr_aload_n h dX12_readsForm_45 0 rfl rfl ?_
        refine zr_iconst (v := (zI 3)) h dX12_readsForm_46 rfl ?_
        refine zr_iload_n h dX12_readsForm_47 1 rfl rfl ?_
        refine zr_callVv h lR_0 zcw_X12_134 (by decide) (c_X12_fails E M_35 (zI 3) x1 _ (zOk_bind hk)) rfl rfl (Nat.le_of_ble_eq_true rfl) dX12_readsForm_48 (fun M_48 hk => ?_)
        obtain ⟨x2_51, ex⟩ : ∃ y : Int32, y = s.2 + (zI 1) := ⟨_, rfl⟩
        have hk := zOk_bnd ex hk
        refine zr_iinc (v := x2_51) (L' := [(0, zrf E 0), (1, .int x1), (2, .int x2_51)]) h 2 [1, 2, 0] dX12_readsForm_51 rfl (by rw [ex]; rfl) (by decide) rfl ?_
        refine zr_goto (tgt := 7) h dX12_readsForm_54 (by decide) ?_
        have hk := zOk_some hk
        exact zr_weak h [0, 1, 2] rfl hk
      · have hk := zOk_f c hk
        obtain ⟨x2_51, ex⟩ : ∃ y : Int32, y = s.2 + (zI 1) := ⟨_, rfl⟩
        have hk := zOk_bnd ex hk
        refine zr_iinc (v := x2_51) (L' := [(0, zrf E 0), (1, .int x1), (2, .int x2_51)]) h 2 [1, 2, 0] dX12_readsForm_51 rfl (by rw [ex]; rfl) (by decide) rfl ?_
        refine zr_goto (tgt := 7) h dX12_readsForm_54 (by decide) ?_
        have hk := zOk_some hk
        exact zr_weak h [0, 1, 2] rfl hk
noncomputable def f_X12_readsForm_116 (M : ZMem) : Option ZMem := zbnd (zstI M 0 5 ((M.1 0 5) + (zI 1))) (fun M_123 => some M_123)
set_option maxRecDepth 100000 in
set_option maxHeartbeats 4000000 in
theorem w_X12_readsForm_116 {E : ZEv} {G : ZG} {K : ZMem → Prop} (h : zRu lyR E G (zRv K) cX12_readsForm RX12 3 none 3) (M : ZMem) (hk : zOk (f_X12_readsForm_116 M) K) : G M 116 [(0, zrf E 0)] [] := by
  unfold f_X12_readsForm_116 at hk
  refine zr_aload_n h dX12_readsForm_116 0 rfl rfl ?_
  refine zr_dup h dX12_readsForm_117 rfl ?_
  refine zr_getI h zfo_X12_144 lR_0 rfl dX12_readsForm_118 ?_
  refine zr_iconst (v := (zI 1)) h dX12_readsForm_121 rfl ?_
  refine zr_iadd h dX12_readsForm_122 ?_
  refine zr_putI h zfp_X12_144 lR_0 rfl dX12_readsForm_123 ?_
  refine zr_mem (fun M_123 eM => ?_)
  have hk := zOk_bnd eM hk
  have hk := zOk_some hk
  exact zr_vret h dX12_readsForm_126 ⟨rfl, hk⟩
noncomputable def f_X12_readsForm_96 (M : ZMem) (x1 : Int32) : Option ZMem := zbind (f_X12_isRight M) (fun r_97 => if r_97 = (zI 0) then f_X12_readsForm_116 M else zbind (f_X12_isTold M) (fun r_104 => if r_104 = (zI 0) then f_X12_readsForm_116 M else zbind (f_X12_fails M (zI 4) x1) (fun M_113 => f_X12_readsForm_116 M_113)))
set_option maxRecDepth 100000 in
set_option maxHeartbeats 4000000 in
theorem w_X12_readsForm_96 {E : ZEv} {G : ZG} {K : ZMem → Prop} (h : zRu lyR E G (zRv K) cX12_readsForm RX12 3 none 3) (M : ZMem) (x1 : Int32) (hk : zOk (f_X12_readsForm_96 M x1) K) : G M 96 [(0, zrf E 0), (1, .int x1)] [] := by
  unfold f_X12_readsForm_96 at hk
  refine zr_aload_n h dX12_readsForm_96 0 rfl rfl ?_
  refine zr_callVp h lR_0 zcw_X12_147 (by decide) (c_X12_isRight E M _ (zOk_bind hk)) rfl rfl (Nat.le_of_ble_eq_true rfl) dX12_readsForm_97 (fun r_97 hk => ?_)
  refine zr_if_eq (tgt := 116) h dX12_readsForm_100 (by decide) (fun c => ?_) (fun c => ?_)
  · have hk := zOk_t c hk
    exact zr_weak h [0] rfl (w_X12_readsForm_116 h M hk)
  · have hk := zOk_f c hk
    refine zr_aload_n h dX12_readsForm_103 0 rfl rfl ?_
    refine zr_callVp h lR_0 zcw_X12_153 (by decide) (c_X12_isTold E M _ (zOk_bind hk)) rfl rfl (Nat.le_of_ble_eq_true rfl) dX12_readsForm_104 (fun r_104 hk => ?_)
    refine zr_if_eq (tgt := 116) h dX12_readsForm_107 (by decide) (fun c => ?_) (fun c => ?_)
    · have hk := zOk_t c hk
      exact zr_weak h [0] rfl (w_X12_readsForm_116 h M hk)
    · have hk := zOk_f c hk
      refine zr_aload_n h dX12_readsForm_110 0 rfl rfl ?_
      refine zr_iconst (v := (zI 4)) h dX12_readsForm_111 rfl ?_
      refine zr_iload_n h dX12_readsForm_112 1 rfl rfl ?_
      refine zr_callVv h lR_0 zcw_X12_134 (by decide) (c_X12_fails E M (zI 4) x1 _ (zOk_bind hk)) rfl rfl (Nat.le_of_ble_eq_true rfl) dX12_readsForm_113 (fun M_113 hk => ?_)
      exact zr_weak h [0] rfl (w_X12_readsForm_116 h M_113 hk)
noncomputable def f_X12_readsForm_86 (M : ZMem) (x1 : Int32) : Option ZMem := zbnd (zstI M 0 2 ((M.1 0 2) + (zI 1))) (fun M_93 => f_X12_readsForm_96 M_93 x1)
set_option maxRecDepth 100000 in
set_option maxHeartbeats 4000000 in
theorem w_X12_readsForm_86 {E : ZEv} {G : ZG} {K : ZMem → Prop} (h : zRu lyR E G (zRv K) cX12_readsForm RX12 3 none 3) (M : ZMem) (x1 : Int32) (hk : zOk (f_X12_readsForm_86 M x1) K) : G M 86 [(0, zrf E 0), (1, .int x1)] [] := by
  unfold f_X12_readsForm_86 at hk
  refine zr_aload_n h dX12_readsForm_86 0 rfl rfl ?_
  refine zr_dup h dX12_readsForm_87 rfl ?_
  refine zr_getI h zfo_X12_113 lR_0 rfl dX12_readsForm_88 ?_
  refine zr_iconst (v := (zI 1)) h dX12_readsForm_91 rfl ?_
  refine zr_iadd h dX12_readsForm_92 ?_
  refine zr_putI h zfp_X12_113 lR_0 rfl dX12_readsForm_93 ?_
  refine zr_mem (fun M_93 eM => ?_)
  have hk := zOk_bnd eM hk
  exact w_X12_readsForm_96 h M_93 x1 hk
noncomputable def f_X12_readsForm (M : ZMem) : Option ZMem := zbnd (M.1 0 2) (fun x1_4 => zbind (zloop (f_X12_readsForm_L7 x1_4) (M, (zI 0))) (fun e7 => zbind (f_X12_isRight e7) (fun r_58 => if r_58 = (zI 0) then f_X12_readsForm_96 e7 x1_4 else zbind (f_X12_blanks e7) (fun M_65 => zbind (f_X12_sign M_65) (fun r_69 => if r_69 = (zI 59) then f_X12_readsForm_86 M_65 x1_4 else zbind (f_X12_fails M_65 (zI 1) (M_65.1 0 2)) (fun M_83 => f_X12_readsForm_86 M_83 x1_4))))))
set_option maxRecDepth 100000 in
set_option maxHeartbeats 4000000 in
theorem c_X12_readsForm (E : ZEv) (M : ZMem) (K : ZMem → Prop) (hk : zOk (f_X12_readsForm M) K) : zCon lyR E yX12_readsForm cX12_readsForm 3 none 3 [zrf E 0] M (zRv K) := by
  refine zcon_of (L0 := [(0, zrf E 0)]) (by decide) rfl (Nat.le_of_ble_eq_true rfl) (fun G h => ?_)
  have h : zRu lyR E G (zRv K) cX12_readsForm RX12 3 none 3 := h
  unfold f_X12_readsForm at hk
  refine zr_aload_n h dX12_readsForm_0 0 rfl rfl ?_
  refine zr_getI h zfo_X12_113 lR_0 rfl dX12_readsForm_1 ?_
  refine zr_topi (fun x1_4 ex => ?_)
  have hk := zOk_bnd ex hk
  refine zr_istore_n (L' := [(0, zrf E 0), (1, .int x1_4)]) h [1, 0] dX12_readsForm_4 rfl (by decide) rfl ?_
  refine zr_iconst (v := (zI 0)) h dX12_readsForm_5 rfl ?_
  refine zr_istore_n (L' := [(0, zrf E 0), (1, .int x1_4), (2, .int (zI 0))]) h [1, 2, 0] dX12_readsForm_6 rfl (by decide) rfl ?_
  refine w_X12_readsForm_L7 h x1_4 (M, (zI 0)) (zOk_mono (zOk_bind hk) (fun e7 hk => ?_))
  refine zr_aload_n h dX12_readsForm_57 0 rfl rfl ?_
  refine zr_callVp h lR_0 zcw_X12_147 (by decide) (c_X12_isRight E e7 _ (zOk_bind hk)) rfl rfl (Nat.le_of_ble_eq_true rfl) dX12_readsForm_58 (fun r_58 hk => ?_)
  refine zr_if_eq (tgt := 96) h dX12_readsForm_61 (by decide) (fun c => ?_) (fun c => ?_)
  · have hk := zOk_t c hk
    exact w_X12_readsForm_96 h e7 x1_4 hk
  · have hk := zOk_f c hk
    refine zr_aload_n h dX12_readsForm_64 0 rfl rfl ?_
    refine zr_callVv h lR_0 zcw_X12_127 (by decide) (c_X12_blanks E e7 _ (zOk_bind hk)) rfl rfl (Nat.le_of_ble_eq_true rfl) dX12_readsForm_65 (fun M_65 hk => ?_)
    refine zr_aload_n h dX12_readsForm_68 0 rfl rfl ?_
    refine zr_callVp h lR_0 zcw_X12_119 (by decide) (c_X12_sign E M_65 _ (zOk_bind hk)) rfl rfl (Nat.le_of_ble_eq_true rfl) dX12_readsForm_69 (fun r_69 hk => ?_)
    refine zr_bipush (v := (zI 59)) h dX12_readsForm_72 (by decide) ?_
    refine zr_icmp_eq (tgt := 86) h dX12_readsForm_74 (by decide) (fun c => ?_) (fun c => ?_)
    · have hk := zOk_t c hk
      exact w_X12_readsForm_86 h M_65 x1_4 hk
    · have hk := zOk_f c hk
      refine zr_aload_n h dX12_readsForm_77 0 rfl rfl ?_
      refine zr_iconst (v := (zI 1)) h dX12_readsForm_78 rfl ?_
      refine zr_aload_n h dX12_readsForm_79 0 rfl rfl ?_
      refine zr_getI h zfo_X12_113 lR_0 rfl dX12_readsForm_80 ?_
      refine zr_callVv h lR_0 zcw_X12_134 (by decide) (c_X12_fails E M_65 (zI 1) (M_65.1 0 2) _ (zOk_bind hk)) rfl rfl (Nat.le_of_ble_eq_true rfl) dX12_readsForm_83 (fun M_83 hk => ?_)
      exact w_X12_readsForm_86 h M_83 x1_4 hk
theorem dX12_clearsTold_0 : decode cX12_clearsTold 0 = .ok (.iconst 0, 1) := by decide +kernel
theorem dX12_clearsTold_1 : decode cX12_clearsTold 1 = .ok (.istore_n 1, 1) := by decide +kernel
theorem dX12_clearsTold_2 : decode cX12_clearsTold 2 = .ok (.iload_n 1, 1) := by decide +kernel
theorem dX12_clearsTold_3 : decode cX12_clearsTold 3 = .ok (.sipush 460, 3) := by decide +kernel
theorem dX12_clearsTold_6 : decode cX12_clearsTold 6 = .ok (.if_icmp .ge 16, 3) := by decide +kernel
theorem dX12_clearsTold_9 : decode cX12_clearsTold 9 = .ok (.aload_n 0, 1) := by decide +kernel
theorem dX12_clearsTold_10 : decode cX12_clearsTold 10 = .ok (.getfield 35, 3) := by decide +kernel
theorem dX12_clearsTold_13 : decode cX12_clearsTold 13 = .ok (.iload_n 1, 1) := by decide +kernel
theorem dX12_clearsTold_14 : decode cX12_clearsTold 14 = .ok (.iconst 0, 1) := by decide +kernel
theorem dX12_clearsTold_15 : decode cX12_clearsTold 15 = .ok (.iastore, 1) := by decide +kernel
theorem dX12_clearsTold_16 : decode cX12_clearsTold 16 = .ok (.iinc 1 1, 3) := by decide +kernel
theorem dX12_clearsTold_19 : decode cX12_clearsTold 19 = .ok (.goto (-17), 3) := by decide +kernel
theorem dX12_clearsTold_22 : decode cX12_clearsTold 22 = .ok (.aload_n 0, 1) := by decide +kernel
theorem dX12_clearsTold_23 : decode cX12_clearsTold 23 = .ok (.getfield 35, 3) := by decide +kernel
theorem dX12_clearsTold_26 : decode cX12_clearsTold 26 = .ok (.iconst 0, 1) := by decide +kernel
theorem dX12_clearsTold_27 : decode cX12_clearsTold 27 = .ok (.iconst 2, 1) := by decide +kernel
theorem dX12_clearsTold_28 : decode cX12_clearsTold 28 = .ok (.iastore, 1) := by decide +kernel
theorem dX12_clearsTold_29 : decode cX12_clearsTold 29 = .ok (.aload_n 0, 1) := by decide +kernel
theorem dX12_clearsTold_30 : decode cX12_clearsTold 30 = .ok (.getfield 35, 3) := by decide +kernel
theorem dX12_clearsTold_33 : decode cX12_clearsTold 33 = .ok (.iconst 1, 1) := by decide +kernel
theorem dX12_clearsTold_34 : decode cX12_clearsTold 34 = .ok (.iconst 3, 1) := by decide +kernel
theorem dX12_clearsTold_35 : decode cX12_clearsTold 35 = .ok (.iastore, 1) := by decide +kernel
theorem dX12_clearsTold_36 : decode cX12_clearsTold 36 = .ok (.aload_n 0, 1) := by decide +kernel
theorem dX12_clearsTold_37 : decode cX12_clearsTold 37 = .ok (.getfield 35, 3) := by decide +kernel
theorem dX12_clearsTold_40 : decode cX12_clearsTold 40 = .ok (.iconst 2, 1) := by decide +kernel
theorem dX12_clearsTold_41 : decode cX12_clearsTold 41 = .ok (.iconst 2, 1) := by decide +kernel
theorem dX12_clearsTold_42 : decode cX12_clearsTold 42 = .ok (.iastore, 1) := by decide +kernel
theorem dX12_clearsTold_43 : decode cX12_clearsTold 43 = .ok (.iconst 0, 1) := by decide +kernel
theorem dX12_clearsTold_44 : decode cX12_clearsTold 44 = .ok (.istore_n 1, 1) := by decide +kernel
theorem dX12_clearsTold_45 : decode cX12_clearsTold 45 = .ok (.iload_n 1, 1) := by decide +kernel
theorem dX12_clearsTold_46 : decode cX12_clearsTold 46 = .ok (.bipush 20, 2) := by decide +kernel
theorem dX12_clearsTold_48 : decode cX12_clearsTold 48 = .ok (.if_icmp .ge 18, 3) := by decide +kernel
theorem dX12_clearsTold_51 : decode cX12_clearsTold 51 = .ok (.aload_n 0, 1) := by decide +kernel
theorem dX12_clearsTold_52 : decode cX12_clearsTold 52 = .ok (.getfield 35, 3) := by decide +kernel
theorem dX12_clearsTold_55 : decode cX12_clearsTold 55 = .ok (.iconst 4, 1) := by decide +kernel
theorem dX12_clearsTold_56 : decode cX12_clearsTold 56 = .ok (.iload_n 1, 1) := by decide +kernel
theorem dX12_clearsTold_57 : decode cX12_clearsTold 57 = .ok (.iadd, 1) := by decide +kernel
theorem dX12_clearsTold_58 : decode cX12_clearsTold 58 = .ok (.iconst (-1), 1) := by decide +kernel
theorem dX12_clearsTold_59 : decode cX12_clearsTold 59 = .ok (.iastore, 1) := by decide +kernel
theorem dX12_clearsTold_60 : decode cX12_clearsTold 60 = .ok (.iinc 1 1, 3) := by decide +kernel
theorem dX12_clearsTold_63 : decode cX12_clearsTold 63 = .ok (.goto (-18), 3) := by decide +kernel
theorem dX12_clearsTold_66 : decode cX12_clearsTold 66 = .ok (.aload_n 0, 1) := by decide +kernel
theorem dX12_clearsTold_67 : decode cX12_clearsTold 67 = .ok (.iconst 0, 1) := by decide +kernel
theorem dX12_clearsTold_68 : decode cX12_clearsTold 68 = .ok (.putfield 181, 3) := by decide +kernel
theorem dX12_clearsTold_71 : decode cX12_clearsTold 71 = .ok (.aload_n 0, 1) := by decide +kernel
theorem dX12_clearsTold_72 : decode cX12_clearsTold 72 = .ok (.iconst 0, 1) := by decide +kernel
theorem dX12_clearsTold_73 : decode cX12_clearsTold 73 = .ok (.putfield 184, 3) := by decide +kernel
theorem dX12_clearsTold_76 : decode cX12_clearsTold 76 = .ok (.return_, 1) := by decide +kernel
noncomputable def f_X12_clearsTold_L2 (s : (ZMem × Int32)) : Option ((ZMem × Int32) ⊕ (ZMem)) := if (zI 460) ≤ s.2 then some (.inr s.1) else zchk (zin s.2 460) (zbnd (zstI s.1 9 (zix s.2) (zI 0)) (fun M_15 => zbnd (s.2 + (zI 1)) (fun x1_16 => some (.inl (M_15, x1_16)))))
set_option maxRecDepth 100000 in
set_option maxHeartbeats 4000000 in
theorem w_X12_clearsTold_L2 {E : ZEv} {G : ZG} {K : ZMem → Prop} (h : zRu lyR E G (zRv K) cX12_clearsTold RX12 2 none 0) (s : (ZMem × Int32)) (hk : zOk (zloop (f_X12_clearsTold_L2) s) (fun e => G e 22 [(0, zrf E 0)] [])) : G s.1 2 [(0, zrf E 0), (1, .int s.2)] [] := by
  refine zloop_walk (P := fun s => G s.1 2 [(0, zrf E 0), (1, .int s.2)] []) hk (fun s hk => ?_)
  unfold f_X12_clearsTold_L2 at hk
  refine zr_iload_n h dX12_clearsTold_2 1 rfl rfl ?_
  refine zr_sipush (v := (zI 460)) h dX12_clearsTold_3 (by decide) ?_
  refine zr_icmp_ge (tgt := 22) h dX12_clearsTold_6 (by decide) (fun c => ?_) (fun c => ?_)
  · have hk := zOk_t c hk
    have hk := zOk_some hk
    exact zr_weak h [0] rfl hk
  · have hk := zOk_f c hk
    refine zr_aload_n h dX12_clearsTold_9 0 rfl rfl ?_
    refine zr_getR h zfo_X12_35 lR_0 rfl dX12_clearsTold_10 ?_
    refine zr_iload_n h dX12_clearsTold_13 1 rfl rfl ?_
    refine zr_iconst (v := (zI 0)) h dX12_clearsTold_14 rfl ?_
    have hb := zOk_chk hk
    have hk := hb.2
    refine zr_iast h lR_9 hb.1 dX12_clearsTold_15 ?_
    refine zr_mem (fun M_15 eM => ?_)
    have hk := zOk_bnd eM hk
    obtain ⟨x1_16, ex⟩ : ∃ y : Int32, y = s.2 + (zI 1) := ⟨_, rfl⟩
    have hk := zOk_bnd ex hk
    refine zr_iinc (v := x1_16) (L' := [(0, zrf E 0), (1, .int x1_16)]) h 1 [1, 0] dX12_clearsTold_16 rfl (by rw [ex]; rfl) (by decide) rfl ?_
    refine zr_goto (tgt := 2) h dX12_clearsTold_19 (by decide) ?_
    have hk := zOk_some hk
    exact zr_weak h [0, 1] rfl hk
noncomputable def f_X12_clearsTold_L45 (s : (ZMem × Int32)) : Option ((ZMem × Int32) ⊕ (ZMem)) := if (zI 20) ≤ s.2 then some (.inr s.1) else zchk (zin ((zI 4) + s.2) 460) (zbnd (zstI s.1 9 (zix ((zI 4) + s.2)) (zI (-1))) (fun M_59 => zbnd (s.2 + (zI 1)) (fun x1_60 => some (.inl (M_59, x1_60)))))
set_option maxRecDepth 100000 in
set_option maxHeartbeats 4000000 in
theorem w_X12_clearsTold_L45 {E : ZEv} {G : ZG} {K : ZMem → Prop} (h : zRu lyR E G (zRv K) cX12_clearsTold RX12 2 none 0) (s : (ZMem × Int32)) (hk : zOk (zloop (f_X12_clearsTold_L45) s) (fun e => G e 66 [(0, zrf E 0)] [])) : G s.1 45 [(0, zrf E 0), (1, .int s.2)] [] := by
  refine zloop_walk (P := fun s => G s.1 45 [(0, zrf E 0), (1, .int s.2)] []) hk (fun s hk => ?_)
  unfold f_X12_clearsTold_L45 at hk
  refine zr_iload_n h dX12_clearsTold_45 1 rfl rfl ?_
  refine zr_bipush (v := (zI 20)) h dX12_clearsTold_46 (by decide) ?_
  refine zr_icmp_ge (tgt := 66) h dX12_clearsTold_48 (by decide) (fun c => ?_) (fun c => ?_)
  · have hk := zOk_t c hk
    have hk := zOk_some hk
    exact zr_weak h [0] rfl hk
  · have hk := zOk_f c hk
    refine zr_aload_n h dX12_clearsTold_51 0 rfl rfl ?_
    refine zr_getR h zfo_X12_35 lR_0 rfl dX12_clearsTold_52 ?_
    refine zr_iconst (v := (zI 4)) h dX12_clearsTold_55 rfl ?_
    refine zr_iload_n h dX12_clearsTold_56 1 rfl rfl ?_
    refine zr_iadd h dX12_clearsTold_57 ?_
    refine zr_iconst (v := (zI (-1))) h dX12_clearsTold_58 rfl ?_
    have hb := zOk_chk hk
    have hk := hb.2
    refine zr_iast h lR_9 hb.1 dX12_clearsTold_59 ?_
    refine zr_mem (fun M_59 eM => ?_)
    have hk := zOk_bnd eM hk
    obtain ⟨x1_60, ex⟩ : ∃ y : Int32, y = s.2 + (zI 1) := ⟨_, rfl⟩
    have hk := zOk_bnd ex hk
    refine zr_iinc (v := x1_60) (L' := [(0, zrf E 0), (1, .int x1_60)]) h 1 [1, 0] dX12_clearsTold_60 rfl (by rw [ex]; rfl) (by decide) rfl ?_
    refine zr_goto (tgt := 45) h dX12_clearsTold_63 (by decide) ?_
    have hk := zOk_some hk
    exact zr_weak h [0, 1] rfl hk
noncomputable def f_X12_clearsTold (M : ZMem) : Option ZMem := zbind (zloop (f_X12_clearsTold_L2) (M, (zI 0))) (fun e2 => zbnd (zstI e2 9 (zix (zI 0)) (zI 2)) (fun M_28 => zbnd (zstI M_28 9 (zix (zI 1)) (zI 3)) (fun M_35 => zbnd (zstI M_35 9 (zix (zI 2)) (zI 2)) (fun M_42 => zbind (zloop (f_X12_clearsTold_L45) (M_42, (zI 0))) (fun e45 => zbnd (zstI e45 0 17 (zI 0)) (fun M_68 => zbnd (zstI M_68 0 45 (zI 0)) (fun M_73 => some M_73)))))))
set_option maxRecDepth 100000 in
set_option maxHeartbeats 4000000 in
theorem c_X12_clearsTold (E : ZEv) (M : ZMem) (K : ZMem → Prop) (hk : zOk (f_X12_clearsTold M) K) : zCon lyR E yX12_clearsTold cX12_clearsTold 2 none 0 [zrf E 0] M (zRv K) := by
  refine zcon_of (L0 := [(0, zrf E 0)]) (by decide) rfl (Nat.le_of_ble_eq_true rfl) (fun G h => ?_)
  have h : zRu lyR E G (zRv K) cX12_clearsTold RX12 2 none 0 := h
  unfold f_X12_clearsTold at hk
  refine zr_iconst (v := (zI 0)) h dX12_clearsTold_0 rfl ?_
  refine zr_istore_n (L' := [(0, zrf E 0), (1, .int (zI 0))]) h [1, 0] dX12_clearsTold_1 rfl (by decide) rfl ?_
  refine w_X12_clearsTold_L2 h (M, (zI 0)) (zOk_mono (zOk_bind hk) (fun e2 hk => ?_))
  refine zr_aload_n h dX12_clearsTold_22 0 rfl rfl ?_
  refine zr_getR h zfo_X12_35 lR_0 rfl dX12_clearsTold_23 ?_
  refine zr_iconst (v := (zI 0)) h dX12_clearsTold_26 rfl ?_
  refine zr_iconst (v := (zI 2)) h dX12_clearsTold_27 rfl ?_
  refine zr_iast h lR_9 (by decide) dX12_clearsTold_28 ?_
  refine zr_mem (fun M_28 eM => ?_)
  have hk := zOk_bnd eM hk
  refine zr_aload_n h dX12_clearsTold_29 0 rfl rfl ?_
  refine zr_getR h zfo_X12_35 lR_0 rfl dX12_clearsTold_30 ?_
  refine zr_iconst (v := (zI 1)) h dX12_clearsTold_33 rfl ?_
  refine zr_iconst (v := (zI 3)) h dX12_clearsTold_34 rfl ?_
  refine zr_iast h lR_9 (by decide) dX12_clearsTold_35 ?_
  refine zr_mem (fun M_35 eM => ?_)
  have hk := zOk_bnd eM hk
  refine zr_aload_n h dX12_clearsTold_36 0 rfl rfl ?_
  refine zr_getR h zfo_X12_35 lR_0 rfl dX12_clearsTold_37 ?_
  refine zr_iconst (v := (zI 2)) h dX12_clearsTold_40 rfl ?_
  refine zr_iconst (v := (zI 2)) h dX12_clearsTold_41 rfl ?_
  refine zr_iast h lR_9 (by decide) dX12_clearsTold_42 ?_
  refine zr_mem (fun M_42 eM => ?_)
  have hk := zOk_bnd eM hk
  refine zr_iconst (v := (zI 0)) h dX12_clearsTold_43 rfl ?_
  refine zr_istore_n (L' := [(0, zrf E 0), (1, .int (zI 0))]) h [1, 0] dX12_clearsTold_44 rfl (by decide) rfl ?_
  refine w_X12_clearsTold_L45 h (M_42, (zI 0)) (zOk_mono (zOk_bind hk) (fun e45 hk => ?_))
  refine zr_aload_n h dX12_clearsTold_66 0 rfl rfl ?_
  refine zr_iconst (v := (zI 0)) h dX12_clearsTold_67 rfl ?_
  refine zr_putI h zfp_X12_181 lR_0 rfl dX12_clearsTold_68 ?_
  refine zr_mem (fun M_68 eM => ?_)
  have hk := zOk_bnd eM hk
  refine zr_aload_n h dX12_clearsTold_71 0 rfl rfl ?_
  refine zr_iconst (v := (zI 0)) h dX12_clearsTold_72 rfl ?_
  refine zr_putZ h zfp_X12_184 lR_0 rfl (by decide) dX12_clearsTold_73 ?_
  refine zr_mem (fun M_73 eM => ?_)
  have hk := zOk_bnd eM hk
  have hk := zOk_some hk
  exact zr_vret h dX12_clearsTold_76 ⟨rfl, hk⟩
theorem dX12_forms_0 : decode cX12_forms 0 = .ok (.aload_n 0, 1) := by decide +kernel
theorem dX12_forms_1 : decode cX12_forms 1 = .ok (.invokevirtual 156, 3) := by decide +kernel
theorem dX12_forms_4 : decode cX12_forms 4 = .ok (.aload_n 0, 1) := by decide +kernel
theorem dX12_forms_5 : decode cX12_forms 5 = .ok (.iconst 0, 1) := by decide +kernel
theorem dX12_forms_6 : decode cX12_forms 6 = .ok (.putfield 144, 3) := by decide +kernel
theorem dX12_forms_9 : decode cX12_forms 9 = .ok (.aload_n 0, 1) := by decide +kernel
theorem dX12_forms_10 : decode cX12_forms 10 = .ok (.invokevirtual 127, 3) := by decide +kernel
theorem dX12_forms_13 : decode cX12_forms 13 = .ok (.aload_n 0, 1) := by decide +kernel
theorem dX12_forms_14 : decode cX12_forms 14 = .ok (.invokevirtual 147, 3) := by decide +kernel
theorem dX12_forms_17 : decode cX12_forms 17 = .ok (.ifCond .eq 22, 3) := by decide +kernel
theorem dX12_forms_20 : decode cX12_forms 20 = .ok (.aload_n 0, 1) := by decide +kernel
theorem dX12_forms_21 : decode cX12_forms 21 = .ok (.invokevirtual 119, 3) := by decide +kernel
theorem dX12_forms_24 : decode cX12_forms 24 = .ok (.iconst (-1), 1) := by decide +kernel
theorem dX12_forms_25 : decode cX12_forms 25 = .ok (.if_icmp .eq 14, 3) := by decide +kernel
theorem dX12_forms_28 : decode cX12_forms 28 = .ok (.aload_n 0, 1) := by decide +kernel
theorem dX12_forms_29 : decode cX12_forms 29 = .ok (.invokevirtual 159, 3) := by decide +kernel
theorem dX12_forms_32 : decode cX12_forms 32 = .ok (.aload_n 0, 1) := by decide +kernel
theorem dX12_forms_33 : decode cX12_forms 33 = .ok (.invokevirtual 127, 3) := by decide +kernel
theorem dX12_forms_36 : decode cX12_forms 36 = .ok (.goto (-23), 3) := by decide +kernel
theorem dX12_forms_39 : decode cX12_forms 39 = .ok (.aload_n 0, 1) := by decide +kernel
theorem dX12_forms_40 : decode cX12_forms 40 = .ok (.iconst 0, 1) := by decide +kernel
theorem dX12_forms_41 : decode cX12_forms 41 = .ok (.putfield 105, 3) := by decide +kernel
theorem dX12_forms_44 : decode cX12_forms 44 = .ok (.aload_n 0, 1) := by decide +kernel
theorem dX12_forms_45 : decode cX12_forms 45 = .ok (.invokevirtual 147, 3) := by decide +kernel
theorem dX12_forms_48 : decode cX12_forms 48 = .ok (.ifCond .ne 11, 3) := by decide +kernel
theorem dX12_forms_51 : decode cX12_forms 51 = .ok (.bipush (-2), 2) := by decide +kernel
theorem dX12_forms_53 : decode cX12_forms 53 = .ok (.aload_n 0, 1) := by decide +kernel
theorem dX12_forms_54 : decode cX12_forms 54 = .ok (.getfield 116, 3) := by decide +kernel
theorem dX12_forms_57 : decode cX12_forms 57 = .ok (.isub, 1) := by decide +kernel
theorem dX12_forms_58 : decode cX12_forms 58 = .ok (.ireturn, 1) := by decide +kernel
theorem dX12_forms_59 : decode cX12_forms 59 = .ok (.aload_n 0, 1) := by decide +kernel
theorem dX12_forms_60 : decode cX12_forms 60 = .ok (.aload_n 0, 1) := by decide +kernel
theorem dX12_forms_61 : decode cX12_forms 61 = .ok (.getfield 144, 3) := by decide +kernel
theorem dX12_forms_64 : decode cX12_forms 64 = .ok (.putfield 162, 3) := by decide +kernel
theorem dX12_forms_67 : decode cX12_forms 67 = .ok (.iconst 0, 1) := by decide +kernel
theorem dX12_forms_68 : decode cX12_forms 68 = .ok (.istore_n 1, 1) := by decide +kernel
theorem dX12_forms_69 : decode cX12_forms 69 = .ok (.iload_n 1, 1) := by decide +kernel
theorem dX12_forms_70 : decode cX12_forms 70 = .ok (.aload_n 0, 1) := by decide +kernel
theorem dX12_forms_71 : decode cX12_forms 71 = .ok (.getfield 162, 3) := by decide +kernel
theorem dX12_forms_74 : decode cX12_forms 74 = .ok (.iconst 5, 1) := by decide +kernel
theorem dX12_forms_75 : decode cX12_forms 75 = .ok (.imul, 1) := by decide +kernel
theorem dX12_forms_76 : decode cX12_forms 76 = .ok (.if_icmp .ge 21, 3) := by decide +kernel
theorem dX12_forms_79 : decode cX12_forms 79 = .ok (.aload_n 0, 1) := by decide +kernel
theorem dX12_forms_80 : decode cX12_forms 80 = .ok (.getfield 13, 3) := by decide +kernel
theorem dX12_forms_83 : decode cX12_forms 83 = .ok (.iload_n 1, 1) := by decide +kernel
theorem dX12_forms_84 : decode cX12_forms 84 = .ok (.aload_n 0, 1) := by decide +kernel
theorem dX12_forms_85 : decode cX12_forms 85 = .ok (.getfield 17, 3) := by decide +kernel
theorem dX12_forms_88 : decode cX12_forms 88 = .ok (.iload_n 1, 1) := by decide +kernel
theorem dX12_forms_89 : decode cX12_forms 89 = .ok (.iaload, 1) := by decide +kernel
theorem dX12_forms_90 : decode cX12_forms 90 = .ok (.iastore, 1) := by decide +kernel
theorem dX12_forms_91 : decode cX12_forms 91 = .ok (.iinc 1 1, 3) := by decide +kernel
theorem dX12_forms_94 : decode cX12_forms 94 = .ok (.goto (-25), 3) := by decide +kernel
theorem dX12_forms_97 : decode cX12_forms 97 = .ok (.aload_n 0, 1) := by decide +kernel
theorem dX12_forms_98 : decode cX12_forms 98 = .ok (.iconst 0, 1) := by decide +kernel
theorem dX12_forms_99 : decode cX12_forms 99 = .ok (.putfield 165, 3) := by decide +kernel
theorem dX12_forms_102 : decode cX12_forms 102 = .ok (.aload_n 0, 1) := by decide +kernel
theorem dX12_forms_103 : decode cX12_forms 103 = .ok (.invokevirtual 102, 3) := by decide +kernel
theorem dX12_forms_106 : decode cX12_forms 106 = .ok (.aload_n 0, 1) := by decide +kernel
theorem dX12_forms_107 : decode cX12_forms 107 = .ok (.getfield 162, 3) := by decide +kernel
theorem dX12_forms_110 : decode cX12_forms 110 = .ok (.ireturn, 1) := by decide +kernel
noncomputable def f_X12_forms_L13 (s : (ZMem)) : Option ((ZMem) ⊕ (ZMem)) := zbind (f_X12_isRight s) (fun r_14 => if r_14 = (zI 0) then some (.inr s) else zbind (f_X12_sign s) (fun r_21 => if r_21 = (zI (-1)) then some (.inr s) else zbind (f_X12_readsForm s) (fun M_29 => zbind (f_X12_blanks M_29) (fun M_33 => some (.inl M_33)))))
set_option maxRecDepth 100000 in
set_option maxHeartbeats 4000000 in
theorem w_X12_forms_L13 {E : ZEv} {G : ZG} {K : (ZMem × Int32) → Prop} (h : zRu lyR E G (zRm K) cX12_forms RX12 2 (some .int) 4) (s : (ZMem)) (hk : zOk (zloop (f_X12_forms_L13) s) (fun e => G e 39 [(0, zrf E 0)] [])) : G s 13 [(0, zrf E 0)] [] := by
  refine zloop_walk (P := fun s => G s 13 [(0, zrf E 0)] []) hk (fun s hk => ?_)
  unfold f_X12_forms_L13 at hk
  refine zr_aload_n h dX12_forms_13 0 rfl rfl ?_
  refine zr_callVp h lR_0 zcw_X12_147 (by decide) (c_X12_isRight E s _ (zOk_bind hk)) rfl rfl (Nat.le_of_ble_eq_true rfl) dX12_forms_14 (fun r_14 hk => ?_)
  refine zr_if_eq (tgt := 39) h dX12_forms_17 (by decide) (fun c => ?_) (fun c => ?_)
  · have hk := zOk_t c hk
    have hk := zOk_some hk
    exact zr_weak h [0] rfl hk
  · have hk := zOk_f c hk
    refine zr_aload_n h dX12_forms_20 0 rfl rfl ?_
    refine zr_callVp h lR_0 zcw_X12_119 (by decide) (c_X12_sign E s _ (zOk_bind hk)) rfl rfl (Nat.le_of_ble_eq_true rfl) dX12_forms_21 (fun r_21 hk => ?_)
    refine zr_iconst (v := (zI (-1))) h dX12_forms_24 rfl ?_
    refine zr_icmp_eq (tgt := 39) h dX12_forms_25 (by decide) (fun c => ?_) (fun c => ?_)
    · have hk := zOk_t c hk
      have hk := zOk_some hk
      exact zr_weak h [0] rfl hk
    · have hk := zOk_f c hk
      refine zr_aload_n h dX12_forms_28 0 rfl rfl ?_
      refine zr_callVv h lR_0 zcw_X12_159 (by decide) (c_X12_readsForm E s _ (zOk_bind hk)) rfl rfl (Nat.le_of_ble_eq_true rfl) dX12_forms_29 (fun M_29 hk => ?_)
      refine zr_aload_n h dX12_forms_32 0 rfl rfl ?_
      refine zr_callVv h lR_0 zcw_X12_127 (by decide) (c_X12_blanks E M_29 _ (zOk_bind hk)) rfl rfl (Nat.le_of_ble_eq_true rfl) dX12_forms_33 (fun M_33 hk => ?_)
      refine zr_goto (tgt := 13) h dX12_forms_36 (by decide) ?_
      have hk := zOk_some hk
      exact zr_weak h [0] rfl hk
noncomputable def f_X12_forms_L69 (s : (ZMem × Int32)) : Option ((ZMem × Int32) ⊕ (ZMem)) := if ((s.1.1 0 4) * (zI 5)) ≤ s.2 then some (.inr s.1) else zchk (zin s.2 105) (zchk (zin s.2 100) (zbnd (zstI s.1 2 (zix s.2) (s.1.1 3 (zix s.2))) (fun M_90 => zbnd (s.2 + (zI 1)) (fun x1_91 => some (.inl (M_90, x1_91))))))
set_option maxRecDepth 100000 in
set_option maxHeartbeats 4000000 in
theorem w_X12_forms_L69 {E : ZEv} {G : ZG} {K : (ZMem × Int32) → Prop} (h : zRu lyR E G (zRm K) cX12_forms RX12 2 (some .int) 4) (s : (ZMem × Int32)) (hk : zOk (zloop (f_X12_forms_L69) s) (fun e => G e 97 [(0, zrf E 0)] [])) : G s.1 69 [(0, zrf E 0), (1, .int s.2)] [] := by
  refine zloop_walk (P := fun s => G s.1 69 [(0, zrf E 0), (1, .int s.2)] []) hk (fun s hk => ?_)
  unfold f_X12_forms_L69 at hk
  refine zr_iload_n h dX12_forms_69 1 rfl rfl ?_
  refine zr_aload_n h dX12_forms_70 0 rfl rfl ?_
  refine zr_getI h zfo_X12_162 lR_0 rfl dX12_forms_71 ?_
  refine zr_iconst (v := (zI 5)) h dX12_forms_74 rfl ?_
  refine zr_imul h dX12_forms_75 ?_
  refine zr_icmp_ge (tgt := 97) h dX12_forms_76 (by decide) (fun c => ?_) (fun c => ?_)
  · have hk := zOk_t c hk
    have hk := zOk_some hk
    exact zr_weak h [0] rfl hk
  · have hk := zOk_f c hk
    refine zr_aload_n h dX12_forms_79 0 rfl rfl ?_
    refine zr_getR h zfo_X12_13 lR_0 rfl dX12_forms_80 ?_
    refine zr_iload_n h dX12_forms_83 1 rfl rfl ?_
    refine zr_aload_n h dX12_forms_84 0 rfl rfl ?_
    refine zr_getR h zfo_X12_17 lR_0 rfl dX12_forms_85 ?_
    refine zr_iload_n h dX12_forms_88 1 rfl rfl ?_
    have hb := zOk_chk hk
    have hk := hb.2
    refine zr_iald h lR_3 hb.1 dX12_forms_89 ?_
    have hb := zOk_chk hk
    have hk := hb.2
    refine zr_iast h lR_2 hb.1 dX12_forms_90 ?_
    refine zr_mem (fun M_90 eM => ?_)
    have hk := zOk_bnd eM hk
    obtain ⟨x1_91, ex⟩ : ∃ y : Int32, y = s.2 + (zI 1) := ⟨_, rfl⟩
    have hk := zOk_bnd ex hk
    refine zr_iinc (v := x1_91) (L' := [(0, zrf E 0), (1, .int x1_91)]) h 1 [1, 0] dX12_forms_91 rfl (by rw [ex]; rfl) (by decide) rfl ?_
    refine zr_goto (tgt := 69) h dX12_forms_94 (by decide) ?_
    have hk := zOk_some hk
    exact zr_weak h [0, 1] rfl hk
noncomputable def f_X12_forms (M : ZMem) : Option (ZMem × Int32) := zbind (f_X12_starts M) (fun M_1 => zbnd (zstI M_1 0 5 (zI 0)) (fun M_6 => zbind (f_X12_blanks M_6) (fun M_10 => zbind (zloop (f_X12_forms_L13) M_10) (fun e13 => zbnd (zstI e13 0 1 (zI 0)) (fun M_41 => zbind (f_X12_isRight M_41) (fun r_45 => if r_45 = (zI 0) then some (M_41, ((zI (-2)) - (M_41.1 0 3))) else zbnd (zstI M_41 0 4 (M_41.1 0 5)) (fun M_64 => zbind (zloop (f_X12_forms_L69) (M_64, (zI 0))) (fun e69 => zbnd (zstI e69 0 8 (zI 0)) (fun M_99 => zbind (f_X12_clearsTold M_99) (fun M_103 => some (M_103, (M_103.1 0 4))))))))))))
set_option maxRecDepth 100000 in
set_option maxHeartbeats 4000000 in
theorem c_X12_forms (E : ZEv) (M : ZMem) (K : ZMem × Int32 → Prop) (hk : zOk (f_X12_forms M) K) : zCon lyR E yX12_forms cX12_forms 2 (some .int) 4 [zrf E 0] M (zRm K) := by
  refine zcon_of (L0 := [(0, zrf E 0)]) (by decide) rfl (Nat.le_of_ble_eq_true rfl) (fun G h => ?_)
  have h : zRu lyR E G (zRm K) cX12_forms RX12 2 (some .int) 4 := h
  unfold f_X12_forms at hk
  refine zr_aload_n h dX12_forms_0 0 rfl rfl ?_
  refine zr_callVv h lR_0 zcw_X12_156 (by decide) (c_X12_starts E M _ (zOk_bind hk)) rfl rfl (Nat.le_of_ble_eq_true rfl) dX12_forms_1 (fun M_1 hk => ?_)
  refine zr_aload_n h dX12_forms_4 0 rfl rfl ?_
  refine zr_iconst (v := (zI 0)) h dX12_forms_5 rfl ?_
  refine zr_putI h zfp_X12_144 lR_0 rfl dX12_forms_6 ?_
  refine zr_mem (fun M_6 eM => ?_)
  have hk := zOk_bnd eM hk
  refine zr_aload_n h dX12_forms_9 0 rfl rfl ?_
  refine zr_callVv h lR_0 zcw_X12_127 (by decide) (c_X12_blanks E M_6 _ (zOk_bind hk)) rfl rfl (Nat.le_of_ble_eq_true rfl) dX12_forms_10 (fun M_10 hk => ?_)
  refine w_X12_forms_L13 h M_10 (zOk_mono (zOk_bind hk) (fun e13 hk => ?_))
  refine zr_aload_n h dX12_forms_39 0 rfl rfl ?_
  refine zr_iconst (v := (zI 0)) h dX12_forms_40 rfl ?_
  refine zr_putI h zfp_X12_105 lR_0 rfl dX12_forms_41 ?_
  refine zr_mem (fun M_41 eM => ?_)
  have hk := zOk_bnd eM hk
  refine zr_aload_n h dX12_forms_44 0 rfl rfl ?_
  refine zr_callVp h lR_0 zcw_X12_147 (by decide) (c_X12_isRight E M_41 _ (zOk_bind hk)) rfl rfl (Nat.le_of_ble_eq_true rfl) dX12_forms_45 (fun r_45 hk => ?_)
  refine zr_if_ne (tgt := 59) h dX12_forms_48 (by decide) (fun c => ?_) (fun c => ?_)
  · have hk := zOk_t c hk
    refine zr_bipush (v := (zI (-2))) h dX12_forms_51 (by decide) ?_
    refine zr_aload_n h dX12_forms_53 0 rfl rfl ?_
    refine zr_getI h zfo_X12_116 lR_0 rfl dX12_forms_54 ?_
    refine zr_isub h dX12_forms_57 ?_
    have hk := zOk_some hk
    exact zr_iret h dX12_forms_58 ⟨_, rfl, hk⟩
  · have hk := zOk_f c hk
    refine zr_aload_n h dX12_forms_59 0 rfl rfl ?_
    refine zr_aload_n h dX12_forms_60 0 rfl rfl ?_
    refine zr_getI h zfo_X12_144 lR_0 rfl dX12_forms_61 ?_
    refine zr_putI h zfp_X12_162 lR_0 rfl dX12_forms_64 ?_
    refine zr_mem (fun M_64 eM => ?_)
    have hk := zOk_bnd eM hk
    refine zr_iconst (v := (zI 0)) h dX12_forms_67 rfl ?_
    refine zr_istore_n (L' := [(0, zrf E 0), (1, .int (zI 0))]) h [1, 0] dX12_forms_68 rfl (by decide) rfl ?_
    refine w_X12_forms_L69 h (M_64, (zI 0)) (zOk_mono (zOk_bind hk) (fun e69 hk => ?_))
    refine zr_aload_n h dX12_forms_97 0 rfl rfl ?_
    refine zr_iconst (v := (zI 0)) h dX12_forms_98 rfl ?_
    refine zr_putI h zfp_X12_165 lR_0 rfl dX12_forms_99 ?_
    refine zr_mem (fun M_99 eM => ?_)
    have hk := zOk_bnd eM hk
    refine zr_aload_n h dX12_forms_102 0 rfl rfl ?_
    refine zr_callVv h lR_0 zcw_X12_102 (by decide) (c_X12_clearsTold E M_99 _ (zOk_bind hk)) rfl rfl (Nat.le_of_ble_eq_true rfl) dX12_forms_103 (fun M_103 hk => ?_)
    refine zr_aload_n h dX12_forms_106 0 rfl rfl ?_
    refine zr_getI h zfo_X12_162 lR_0 rfl dX12_forms_107 ?_
    have hk := zOk_some hk
    exact zr_iret h dX12_forms_110 ⟨_, rfl, hk⟩
theorem dX12_isLetter_0 : decode cX12_isLetter 0 = .ok (.aload_n 0, 1) := by decide +kernel
theorem dX12_isLetter_1 : decode cX12_isLetter 1 = .ok (.invokevirtual 119, 3) := by decide +kernel
theorem dX12_isLetter_4 : decode cX12_isLetter 4 = .ok (.bipush 97, 2) := by decide +kernel
theorem dX12_isLetter_6 : decode cX12_isLetter 6 = .ok (.bipush 122, 2) := by decide +kernel
theorem dX12_isLetter_8 : decode cX12_isLetter 8 = .ok (.invokestatic 123, 3) := by decide +kernel
theorem dX12_isLetter_11 : decode cX12_isLetter 11 = .ok (.ireturn, 1) := by decide +kernel
noncomputable def f_X12_isLetter (M : ZMem) : Option Int32 := zbind (f_X12_sign M) (fun r_1 => zbind (f_X12_in M r_1 (zI 97) (zI 122)) (fun r_8 => zchk (zisB r_8) (some r_8)))
set_option maxRecDepth 100000 in
set_option maxHeartbeats 4000000 in
theorem c_X12_isLetter (E : ZEv) (M : ZMem) (K : Int32 → Prop) (hk : zOk (f_X12_isLetter M) K) : zCon lyR E yX12_isLetter cX12_isLetter 1 (some .boolean) 1 [zrf E 0] M (zRp M K) := by
  refine zcon_of (L0 := [(0, zrf E 0)]) (by decide) rfl (Nat.le_of_ble_eq_true rfl) (fun G h => ?_)
  have h : zRu lyR E G (zRp M K) cX12_isLetter RX12 1 (some .boolean) 1 := h
  unfold f_X12_isLetter at hk
  refine zr_aload_n h dX12_isLetter_0 0 rfl rfl ?_
  refine zr_callVp h lR_0 zcw_X12_119 (by decide) (c_X12_sign E M _ (zOk_bind hk)) rfl rfl (Nat.le_of_ble_eq_true rfl) dX12_isLetter_1 (fun r_1 hk => ?_)
  refine zr_bipush (v := (zI 97)) h dX12_isLetter_4 (by decide) ?_
  refine zr_bipush (v := (zI 122)) h dX12_isLetter_6 (by decide) ?_
  refine zr_callSp h zcw_X12_123 (by decide) (c_X12_in E M r_1 (zI 97) (zI 122) _ (zOk_bind hk)) rfl rfl (Nat.le_of_ble_eq_true rfl) dX12_isLetter_8 (fun r_8 hk => ?_)
  have hb := zOk_chk hk
  have hk := hb.2
  have hk := zOk_some hk
  exact zr_zret h dX12_isLetter_11 hb.1 ⟨rfl, _, rfl, hk⟩
theorem dX12_placeTaken_0 : decode cX12_placeTaken 0 = .ok (.aload_n 0, 1) := by decide +kernel
theorem dX12_placeTaken_1 : decode cX12_placeTaken 1 = .ok (.getfield 23, 3) := by decide +kernel
theorem dX12_placeTaken_4 : decode cX12_placeTaken 4 = .ok (.iload_n 1, 1) := by decide +kernel
theorem dX12_placeTaken_5 : decode cX12_placeTaken 5 = .ok (.iaload, 1) := by decide +kernel
theorem dX12_placeTaken_6 : decode cX12_placeTaken 6 = .ok (.istore_n 2, 1) := by decide +kernel
theorem dX12_placeTaken_7 : decode cX12_placeTaken 7 = .ok (.aload_n 0, 1) := by decide +kernel
theorem dX12_placeTaken_8 : decode cX12_placeTaken 8 = .ok (.invokevirtual 168, 3) := by decide +kernel
theorem dX12_placeTaken_11 : decode cX12_placeTaken 11 = .ok (.ifCond .eq 26, 3) := by decide +kernel
theorem dX12_placeTaken_14 : decode cX12_placeTaken 14 = .ok (.aload_n 0, 1) := by decide +kernel
theorem dX12_placeTaken_15 : decode cX12_placeTaken 15 = .ok (.invokevirtual 119, 3) := by decide +kernel
theorem dX12_placeTaken_18 : decode cX12_placeTaken 18 = .ok (.bipush 97, 2) := by decide +kernel
theorem dX12_placeTaken_20 : decode cX12_placeTaken 20 = .ok (.isub, 1) := by decide +kernel
theorem dX12_placeTaken_21 : decode cX12_placeTaken 21 = .ok (.aload_n 0, 1) := by decide +kernel
theorem dX12_placeTaken_22 : decode cX12_placeTaken 22 = .ok (.getfield 162, 3) := by decide +kernel
theorem dX12_placeTaken_25 : decode cX12_placeTaken 25 = .ok (.if_icmp .lt 12, 3) := by decide +kernel
theorem dX12_placeTaken_28 : decode cX12_placeTaken 28 = .ok (.aload_n 0, 1) := by decide +kernel
theorem dX12_placeTaken_29 : decode cX12_placeTaken 29 = .ok (.iconst 2, 1) := by decide +kernel
theorem dX12_placeTaken_30 : decode cX12_placeTaken 30 = .ok (.aload_n 0, 1) := by decide +kernel
theorem dX12_placeTaken_31 : decode cX12_placeTaken 31 = .ok (.getfield 113, 3) := by decide +kernel
theorem dX12_placeTaken_34 : decode cX12_placeTaken 34 = .ok (.invokevirtual 134, 3) := by decide +kernel
theorem dX12_placeTaken_37 : decode cX12_placeTaken 37 = .ok (.iload_n 2, 1) := by decide +kernel
theorem dX12_placeTaken_38 : decode cX12_placeTaken 38 = .ok (.bipush 10, 2) := by decide +kernel
theorem dX12_placeTaken_40 : decode cX12_placeTaken 40 = .ok (.if_icmp .ne 12, 3) := by decide +kernel
theorem dX12_placeTaken_43 : decode cX12_placeTaken 43 = .ok (.aload_n 0, 1) := by decide +kernel
theorem dX12_placeTaken_44 : decode cX12_placeTaken 44 = .ok (.iconst 3, 1) := by decide +kernel
theorem dX12_placeTaken_45 : decode cX12_placeTaken 45 = .ok (.aload_n 0, 1) := by decide +kernel
theorem dX12_placeTaken_46 : decode cX12_placeTaken 46 = .ok (.getfield 113, 3) := by decide +kernel
theorem dX12_placeTaken_49 : decode cX12_placeTaken 49 = .ok (.invokevirtual 134, 3) := by decide +kernel
theorem dX12_placeTaken_52 : decode cX12_placeTaken 52 = .ok (.aload_n 0, 1) := by decide +kernel
theorem dX12_placeTaken_53 : decode cX12_placeTaken 53 = .ok (.invokevirtual 147, 3) := by decide +kernel
theorem dX12_placeTaken_56 : decode cX12_placeTaken 56 = .ok (.ifCond .eq 52, 3) := by decide +kernel
theorem dX12_placeTaken_59 : decode cX12_placeTaken 59 = .ok (.aload_n 0, 1) := by decide +kernel
theorem dX12_placeTaken_60 : decode cX12_placeTaken 60 = .ok (.getfield 26, 3) := by decide +kernel
theorem dX12_placeTaken_63 : decode cX12_placeTaken 63 = .ok (.bipush 10, 2) := by decide +kernel
theorem dX12_placeTaken_65 : decode cX12_placeTaken 65 = .ok (.iload_n 1, 1) := by decide +kernel
theorem dX12_placeTaken_66 : decode cX12_placeTaken 66 = .ok (.imul, 1) := by decide +kernel
theorem dX12_placeTaken_67 : decode cX12_placeTaken 67 = .ok (.iload_n 2, 1) := by decide +kernel
theorem dX12_placeTaken_68 : decode cX12_placeTaken 68 = .ok (.iadd, 1) := by decide +kernel
theorem dX12_placeTaken_69 : decode cX12_placeTaken 69 = .ok (.aload_n 0, 1) := by decide +kernel
theorem dX12_placeTaken_70 : decode cX12_placeTaken 70 = .ok (.invokevirtual 168, 3) := by decide +kernel
theorem dX12_placeTaken_73 : decode cX12_placeTaken 73 = .ok (.ifCond .eq 13, 3) := by decide +kernel
theorem dX12_placeTaken_76 : decode cX12_placeTaken 76 = .ok (.aload_n 0, 1) := by decide +kernel
theorem dX12_placeTaken_77 : decode cX12_placeTaken 77 = .ok (.invokevirtual 119, 3) := by decide +kernel
theorem dX12_placeTaken_80 : decode cX12_placeTaken 80 = .ok (.bipush 97, 2) := by decide +kernel
theorem dX12_placeTaken_82 : decode cX12_placeTaken 82 = .ok (.isub, 1) := by decide +kernel
theorem dX12_placeTaken_83 : decode cX12_placeTaken 83 = .ok (.goto 4, 3) := by decide +kernel
theorem dX12_placeTaken_86 : decode cX12_placeTaken 86 = .ok (.iconst (-1), 1) := by decide +kernel
theorem dX12_placeTaken_87 : decode cX12_placeTaken 87 = .ok (.iastore, 1) := by decide +kernel
theorem dX12_placeTaken_88 : decode cX12_placeTaken 88 = .ok (.aload_n 0, 1) := by decide +kernel
theorem dX12_placeTaken_89 : decode cX12_placeTaken 89 = .ok (.getfield 23, 3) := by decide +kernel
theorem dX12_placeTaken_92 : decode cX12_placeTaken 92 = .ok (.iload_n 1, 1) := by decide +kernel
theorem dX12_placeTaken_93 : decode cX12_placeTaken 93 = .ok (.dup2, 1) := by decide +kernel
theorem dX12_placeTaken_94 : decode cX12_placeTaken 94 = .ok (.iaload, 1) := by decide +kernel
theorem dX12_placeTaken_95 : decode cX12_placeTaken 95 = .ok (.iconst 1, 1) := by decide +kernel
theorem dX12_placeTaken_96 : decode cX12_placeTaken 96 = .ok (.iadd, 1) := by decide +kernel
theorem dX12_placeTaken_97 : decode cX12_placeTaken 97 = .ok (.iastore, 1) := by decide +kernel
theorem dX12_placeTaken_98 : decode cX12_placeTaken 98 = .ok (.aload_n 0, 1) := by decide +kernel
theorem dX12_placeTaken_99 : decode cX12_placeTaken 99 = .ok (.dup, 1) := by decide +kernel
theorem dX12_placeTaken_100 : decode cX12_placeTaken 100 = .ok (.getfield 113, 3) := by decide +kernel
theorem dX12_placeTaken_103 : decode cX12_placeTaken 103 = .ok (.iconst 1, 1) := by decide +kernel
theorem dX12_placeTaken_104 : decode cX12_placeTaken 104 = .ok (.iadd, 1) := by decide +kernel
theorem dX12_placeTaken_105 : decode cX12_placeTaken 105 = .ok (.putfield 113, 3) := by decide +kernel
theorem dX12_placeTaken_108 : decode cX12_placeTaken 108 = .ok (.return_, 1) := by decide +kernel
noncomputable def f_X12_placeTaken_87 (M : ZMem) (x1 : Int32) (v1 : Int32) (v2 : Int32) : Option ZMem := zchk (zin v1 280) (zbnd (zstI M 6 (zix v1) v2) (fun M_87 => zchk (zin x1 28) (zchk (zin x1 28) (zbnd (zstI M_87 5 (zix x1) ((M_87.1 5 (zix x1)) + (zI 1))) (fun M_97 => zbnd (zstI M_97 0 2 ((M_97.1 0 2) + (zI 1))) (fun M_105 => some M_105))))))
set_option maxRecDepth 100000 in
set_option maxHeartbeats 4000000 in
theorem w_X12_placeTaken_87 {E : ZEv} {G : ZG} {K : ZMem → Prop} (h : zRu lyR E G (zRv K) cX12_placeTaken RX12 3 none 2) (M : ZMem) (x1 : Int32) (v1 : Int32) (v2 : Int32) (hk : zOk (f_X12_placeTaken_87 M x1 v1 v2) K) : G M 87 [(0, zrf E 0), (1, .int x1)] [.int v2, .int v1, zrf E 6] := by
  unfold f_X12_placeTaken_87 at hk
  have hb := zOk_chk hk
  have hk := hb.2
  refine zr_iast h lR_6 hb.1 dX12_placeTaken_87 ?_
  refine zr_mem (fun M_87 eM => ?_)
  have hk := zOk_bnd eM hk
  refine zr_aload_n h dX12_placeTaken_88 0 rfl rfl ?_
  refine zr_getR h zfo_X12_23 lR_0 rfl dX12_placeTaken_89 ?_
  refine zr_iload_n h dX12_placeTaken_92 1 rfl rfl ?_
  refine zr_dup2_11 h dX12_placeTaken_93 rfl rfl ?_
  have hb := zOk_chk hk
  have hk := hb.2
  refine zr_iald h lR_5 hb.1 dX12_placeTaken_94 ?_
  refine zr_iconst (v := (zI 1)) h dX12_placeTaken_95 rfl ?_
  refine zr_iadd h dX12_placeTaken_96 ?_
  have hb := zOk_chk hk
  have hk := hb.2
  refine zr_iast h lR_5 hb.1 dX12_placeTaken_97 ?_
  refine zr_mem (fun M_97 eM => ?_)
  have hk := zOk_bnd eM hk
  refine zr_aload_n h dX12_placeTaken_98 0 rfl rfl ?_
  refine zr_dup h dX12_placeTaken_99 rfl ?_
  refine zr_getI h zfo_X12_113 lR_0 rfl dX12_placeTaken_100 ?_
  refine zr_iconst (v := (zI 1)) h dX12_placeTaken_103 rfl ?_
  refine zr_iadd h dX12_placeTaken_104 ?_
  refine zr_putI h zfp_X12_113 lR_0 rfl dX12_placeTaken_105 ?_
  refine zr_mem (fun M_105 eM => ?_)
  have hk := zOk_bnd eM hk
  have hk := zOk_some hk
  exact zr_vret h dX12_placeTaken_108 ⟨rfl, hk⟩
noncomputable def f_X12_placeTaken_52 (M : ZMem) (x1 : Int32) (x2 : Int32) : Option ZMem := zbind (f_X12_isRight M) (fun r_53 => if r_53 = (zI 0) then some M else zbind (f_X12_isLetter M) (fun r_70 => if r_70 = (zI 0) then f_X12_placeTaken_87 M x1 (((zI 10) * x1) + x2) (zI (-1)) else zbind (f_X12_sign M) (fun r_77 => f_X12_placeTaken_87 M x1 (((zI 10) * x1) + x2) (r_77 - (zI 97)))))
set_option maxRecDepth 100000 in
set_option maxHeartbeats 4000000 in
theorem w_X12_placeTaken_52 {E : ZEv} {G : ZG} {K : ZMem → Prop} (h : zRu lyR E G (zRv K) cX12_placeTaken RX12 3 none 2) (M : ZMem) (x1 : Int32) (x2 : Int32) (hk : zOk (f_X12_placeTaken_52 M x1 x2) K) : G M 52 [(0, zrf E 0), (1, .int x1), (2, .int x2)] [] := by
  unfold f_X12_placeTaken_52 at hk
  refine zr_aload_n h dX12_placeTaken_52 0 rfl rfl ?_
  refine zr_callVp h lR_0 zcw_X12_147 (by decide) (c_X12_isRight E M _ (zOk_bind hk)) rfl rfl (Nat.le_of_ble_eq_true rfl) dX12_placeTaken_53 (fun r_53 hk => ?_)
  refine zr_if_eq (tgt := 108) h dX12_placeTaken_56 (by decide) (fun c => ?_) (fun c => ?_)
  · have hk := zOk_t c hk
    have hk := zOk_some hk
    exact zr_vret h dX12_placeTaken_108 ⟨rfl, hk⟩
  · have hk := zOk_f c hk
    refine zr_aload_n h dX12_placeTaken_59 0 rfl rfl ?_
    refine zr_getR h zfo_X12_26 lR_0 rfl dX12_placeTaken_60 ?_
    refine zr_bipush (v := (zI 10)) h dX12_placeTaken_63 (by decide) ?_
    refine zr_iload_n h dX12_placeTaken_65 1 rfl rfl ?_
    refine zr_imul h dX12_placeTaken_66 ?_
    refine zr_iload_n h dX12_placeTaken_67 2 rfl rfl ?_
    refine zr_iadd h dX12_placeTaken_68 ?_
    refine zr_aload_n h dX12_placeTaken_69 0 rfl rfl ?_
    refine zr_callVp h lR_0 zcw_X12_168 (by decide) (c_X12_isLetter E M _ (zOk_bind hk)) rfl rfl (Nat.le_of_ble_eq_true rfl) dX12_placeTaken_70 (fun r_70 hk => ?_)
    refine zr_if_eq (tgt := 86) h dX12_placeTaken_73 (by decide) (fun c => ?_) (fun c => ?_)
    · have hk := zOk_t c hk
      refine zr_iconst (v := (zI (-1))) h dX12_placeTaken_86 rfl ?_
      exact zr_weak h [0, 1] rfl (w_X12_placeTaken_87 h M x1 (((zI 10) * x1) + x2) (zI (-1)) hk)
    · have hk := zOk_f c hk
      refine zr_aload_n h dX12_placeTaken_76 0 rfl rfl ?_
      refine zr_callVp h lR_0 zcw_X12_119 (by decide) (c_X12_sign E M _ (zOk_bind hk)) rfl rfl (Nat.le_of_ble_eq_true rfl) dX12_placeTaken_77 (fun r_77 hk => ?_)
      refine zr_bipush (v := (zI 97)) h dX12_placeTaken_80 (by decide) ?_
      refine zr_isub h dX12_placeTaken_82 ?_
      refine zr_goto (tgt := 87) h dX12_placeTaken_83 (by decide) ?_
      exact zr_weak h [0, 1] rfl (w_X12_placeTaken_87 h M x1 (((zI 10) * x1) + x2) (r_77 - (zI 97)) hk)
noncomputable def f_X12_placeTaken_37 (M : ZMem) (x1 : Int32) (x2 : Int32) : Option ZMem := if x2 = (zI 10) then zbind (f_X12_fails M (zI 3) (M.1 0 2)) (fun M_49 => f_X12_placeTaken_52 M_49 x1 x2) else f_X12_placeTaken_52 M x1 x2
set_option maxRecDepth 100000 in
set_option maxHeartbeats 4000000 in
theorem w_X12_placeTaken_37 {E : ZEv} {G : ZG} {K : ZMem → Prop} (h : zRu lyR E G (zRv K) cX12_placeTaken RX12 3 none 2) (M : ZMem) (x1 : Int32) (x2 : Int32) (hk : zOk (f_X12_placeTaken_37 M x1 x2) K) : G M 37 [(0, zrf E 0), (1, .int x1), (2, .int x2)] [] := by
  unfold f_X12_placeTaken_37 at hk
  refine zr_iload_n h dX12_placeTaken_37 2 rfl rfl ?_
  refine zr_bipush (v := (zI 10)) h dX12_placeTaken_38 (by decide) ?_
  refine zr_icmp_ne (tgt := 52) h dX12_placeTaken_40 (by decide) (fun c => ?_) (fun c => ?_)
  · have hk := zOk_t c hk
    refine zr_aload_n h dX12_placeTaken_43 0 rfl rfl ?_
    refine zr_iconst (v := (zI 3)) h dX12_placeTaken_44 rfl ?_
    refine zr_aload_n h dX12_placeTaken_45 0 rfl rfl ?_
    refine zr_getI h zfo_X12_113 lR_0 rfl dX12_placeTaken_46 ?_
    refine zr_callVv h lR_0 zcw_X12_134 (by decide) (c_X12_fails E M (zI 3) (M.1 0 2) _ (zOk_bind hk)) rfl rfl (Nat.le_of_ble_eq_true rfl) dX12_placeTaken_49 (fun M_49 hk => ?_)
    exact w_X12_placeTaken_52 h M_49 x1 x2 hk
  · have hk := zOk_f c hk
    exact w_X12_placeTaken_52 h M x1 x2 hk
noncomputable def f_X12_placeTaken (M : ZMem) (x1 : Int32) : Option ZMem := zchk (zin x1 28) (zbnd (M.1 5 (zix x1)) (fun x2_6 => zbind (f_X12_isLetter M) (fun r_8 => if r_8 = (zI 0) then f_X12_placeTaken_37 M x1 x2_6 else zbind (f_X12_sign M) (fun r_15 => if (r_15 - (zI 97)) < (M.1 0 4) then f_X12_placeTaken_37 M x1 x2_6 else zbind (f_X12_fails M (zI 2) (M.1 0 2)) (fun M_34 => f_X12_placeTaken_37 M_34 x1 x2_6)))))
set_option maxRecDepth 100000 in
set_option maxHeartbeats 4000000 in
theorem c_X12_placeTaken (E : ZEv) (M : ZMem) (x1 : Int32) (K : ZMem → Prop) (hk : zOk (f_X12_placeTaken M x1) K) : zCon lyR E yX12_placeTaken cX12_placeTaken 3 none 2 [zrf E 0, .int x1] M (zRv K) := by
  refine zcon_of (L0 := [(0, zrf E 0), (1, .int x1)]) (by decide) rfl (Nat.le_of_ble_eq_true rfl) (fun G h => ?_)
  have h : zRu lyR E G (zRv K) cX12_placeTaken RX12 3 none 2 := h
  unfold f_X12_placeTaken at hk
  refine zr_aload_n h dX12_placeTaken_0 0 rfl rfl ?_
  refine zr_getR h zfo_X12_23 lR_0 rfl dX12_placeTaken_1 ?_
  refine zr_iload_n h dX12_placeTaken_4 1 rfl rfl ?_
  have hb := zOk_chk hk
  have hk := hb.2
  refine zr_iald h lR_5 hb.1 dX12_placeTaken_5 ?_
  refine zr_topi (fun x2_6 ex => ?_)
  have hk := zOk_bnd ex hk
  refine zr_istore_n (L' := [(0, zrf E 0), (1, .int x1), (2, .int x2_6)]) h [1, 2, 0] dX12_placeTaken_6 rfl (by decide) rfl ?_
  refine zr_aload_n h dX12_placeTaken_7 0 rfl rfl ?_
  refine zr_callVp h lR_0 zcw_X12_168 (by decide) (c_X12_isLetter E M _ (zOk_bind hk)) rfl rfl (Nat.le_of_ble_eq_true rfl) dX12_placeTaken_8 (fun r_8 hk => ?_)
  refine zr_if_eq (tgt := 37) h dX12_placeTaken_11 (by decide) (fun c => ?_) (fun c => ?_)
  · have hk := zOk_t c hk
    exact w_X12_placeTaken_37 h M x1 x2_6 hk
  · have hk := zOk_f c hk
    refine zr_aload_n h dX12_placeTaken_14 0 rfl rfl ?_
    refine zr_callVp h lR_0 zcw_X12_119 (by decide) (c_X12_sign E M _ (zOk_bind hk)) rfl rfl (Nat.le_of_ble_eq_true rfl) dX12_placeTaken_15 (fun r_15 hk => ?_)
    refine zr_bipush (v := (zI 97)) h dX12_placeTaken_18 (by decide) ?_
    refine zr_isub h dX12_placeTaken_20 ?_
    refine zr_aload_n h dX12_placeTaken_21 0 rfl rfl ?_
    refine zr_getI h zfo_X12_162 lR_0 rfl dX12_placeTaken_22 ?_
    refine zr_icmp_lt (tgt := 37) h dX12_placeTaken_25 (by decide) (fun c => ?_) (fun c => ?_)
    · have hk := zOk_t c hk
      exact w_X12_placeTaken_37 h M x1 x2_6 hk
    · have hk := zOk_f c hk
      refine zr_aload_n h dX12_placeTaken_28 0 rfl rfl ?_
      refine zr_iconst (v := (zI 2)) h dX12_placeTaken_29 rfl ?_
      refine zr_aload_n h dX12_placeTaken_30 0 rfl rfl ?_
      refine zr_getI h zfo_X12_113 lR_0 rfl dX12_placeTaken_31 ?_
      refine zr_callVv h lR_0 zcw_X12_134 (by decide) (c_X12_fails E M (zI 2) (M.1 0 2) _ (zOk_bind hk)) rfl rfl (Nat.le_of_ble_eq_true rfl) dX12_placeTaken_34 (fun M_34 hk => ?_)
      exact w_X12_placeTaken_37 h M_34 x1 x2_6 hk
theorem dX12_readsRow_0 : decode cX12_readsRow 0 = .ok (.aload_n 0, 1) := by decide +kernel
theorem dX12_readsRow_1 : decode cX12_readsRow 1 = .ok (.getfield 20, 3) := by decide +kernel
theorem dX12_readsRow_4 : decode cX12_readsRow 4 = .ok (.aload_n 0, 1) := by decide +kernel
theorem dX12_readsRow_5 : decode cX12_readsRow 5 = .ok (.getfield 165, 3) := by decide +kernel
theorem dX12_readsRow_8 : decode cX12_readsRow 8 = .ok (.iaload, 1) := by decide +kernel
theorem dX12_readsRow_9 : decode cX12_readsRow 9 = .ok (.istore_n 1, 1) := by decide +kernel
theorem dX12_readsRow_10 : decode cX12_readsRow 10 = .ok (.aload_n 0, 1) := by decide +kernel
theorem dX12_readsRow_11 : decode cX12_readsRow 11 = .ok (.invokevirtual 168, 3) := by decide +kernel
theorem dX12_readsRow_14 : decode cX12_readsRow 14 = .ok (.ifCond .ne 21, 3) := by decide +kernel
theorem dX12_readsRow_17 : decode cX12_readsRow 17 = .ok (.aload_n 0, 1) := by decide +kernel
theorem dX12_readsRow_18 : decode cX12_readsRow 18 = .ok (.invokevirtual 119, 3) := by decide +kernel
theorem dX12_readsRow_21 : decode cX12_readsRow 21 = .ok (.bipush 46, 2) := by decide +kernel
theorem dX12_readsRow_23 : decode cX12_readsRow 23 = .ok (.if_icmp .eq 12, 3) := by decide +kernel
theorem dX12_readsRow_26 : decode cX12_readsRow 26 = .ok (.aload_n 0, 1) := by decide +kernel
theorem dX12_readsRow_27 : decode cX12_readsRow 27 = .ok (.iconst 1, 1) := by decide +kernel
theorem dX12_readsRow_28 : decode cX12_readsRow 28 = .ok (.aload_n 0, 1) := by decide +kernel
theorem dX12_readsRow_29 : decode cX12_readsRow 29 = .ok (.getfield 113, 3) := by decide +kernel
theorem dX12_readsRow_32 : decode cX12_readsRow 32 = .ok (.invokevirtual 134, 3) := by decide +kernel
theorem dX12_readsRow_35 : decode cX12_readsRow 35 = .ok (.iload_n 1, 1) := by decide +kernel
theorem dX12_readsRow_36 : decode cX12_readsRow 36 = .ok (.iconst 4, 1) := by decide +kernel
theorem dX12_readsRow_37 : decode cX12_readsRow 37 = .ok (.if_icmp .ne 42, 3) := by decide +kernel
theorem dX12_readsRow_40 : decode cX12_readsRow 40 = .ok (.aload_n 0, 1) := by decide +kernel
theorem dX12_readsRow_41 : decode cX12_readsRow 41 = .ok (.invokevirtual 168, 3) := by decide +kernel
theorem dX12_readsRow_44 : decode cX12_readsRow 44 = .ok (.ifCond .eq 26, 3) := by decide +kernel
theorem dX12_readsRow_47 : decode cX12_readsRow 47 = .ok (.aload_n 0, 1) := by decide +kernel
theorem dX12_readsRow_48 : decode cX12_readsRow 48 = .ok (.invokevirtual 119, 3) := by decide +kernel
theorem dX12_readsRow_51 : decode cX12_readsRow 51 = .ok (.bipush 97, 2) := by decide +kernel
theorem dX12_readsRow_53 : decode cX12_readsRow 53 = .ok (.isub, 1) := by decide +kernel
theorem dX12_readsRow_54 : decode cX12_readsRow 54 = .ok (.aload_n 0, 1) := by decide +kernel
theorem dX12_readsRow_55 : decode cX12_readsRow 55 = .ok (.getfield 162, 3) := by decide +kernel
theorem dX12_readsRow_58 : decode cX12_readsRow 58 = .ok (.if_icmp .lt 12, 3) := by decide +kernel
theorem dX12_readsRow_61 : decode cX12_readsRow 61 = .ok (.aload_n 0, 1) := by decide +kernel
theorem dX12_readsRow_62 : decode cX12_readsRow 62 = .ok (.iconst 2, 1) := by decide +kernel
theorem dX12_readsRow_63 : decode cX12_readsRow 63 = .ok (.aload_n 0, 1) := by decide +kernel
theorem dX12_readsRow_64 : decode cX12_readsRow 64 = .ok (.getfield 113, 3) := by decide +kernel
theorem dX12_readsRow_67 : decode cX12_readsRow 67 = .ok (.invokevirtual 134, 3) := by decide +kernel
theorem dX12_readsRow_70 : decode cX12_readsRow 70 = .ok (.aload_n 0, 1) := by decide +kernel
theorem dX12_readsRow_71 : decode cX12_readsRow 71 = .ok (.iconst 3, 1) := by decide +kernel
theorem dX12_readsRow_72 : decode cX12_readsRow 72 = .ok (.aload_n 0, 1) := by decide +kernel
theorem dX12_readsRow_73 : decode cX12_readsRow 73 = .ok (.getfield 113, 3) := by decide +kernel
theorem dX12_readsRow_76 : decode cX12_readsRow 76 = .ok (.invokevirtual 134, 3) := by decide +kernel
theorem dX12_readsRow_79 : decode cX12_readsRow 79 = .ok (.aload_n 0, 1) := by decide +kernel
theorem dX12_readsRow_80 : decode cX12_readsRow 80 = .ok (.invokevirtual 147, 3) := by decide +kernel
theorem dX12_readsRow_83 : decode cX12_readsRow 83 = .ok (.ifCond .ne 4, 3) := by decide +kernel
theorem dX12_readsRow_86 : decode cX12_readsRow 86 = .ok (.return_, 1) := by decide +kernel
theorem dX12_readsRow_87 : decode cX12_readsRow 87 = .ok (.iconst 4, 1) := by decide +kernel
theorem dX12_readsRow_88 : decode cX12_readsRow 88 = .ok (.aload_n 0, 1) := by decide +kernel
theorem dX12_readsRow_89 : decode cX12_readsRow 89 = .ok (.getfield 165, 3) := by decide +kernel
theorem dX12_readsRow_92 : decode cX12_readsRow 92 = .ok (.imul, 1) := by decide +kernel
theorem dX12_readsRow_93 : decode cX12_readsRow 93 = .ok (.iload_n 1, 1) := by decide +kernel
theorem dX12_readsRow_94 : decode cX12_readsRow 94 = .ok (.iadd, 1) := by decide +kernel
theorem dX12_readsRow_95 : decode cX12_readsRow 95 = .ok (.istore_n 2, 1) := by decide +kernel
theorem dX12_readsRow_96 : decode cX12_readsRow 96 = .ok (.aload_n 0, 1) := by decide +kernel
theorem dX12_readsRow_97 : decode cX12_readsRow 97 = .ok (.getfield 23, 3) := by decide +kernel
theorem dX12_readsRow_100 : decode cX12_readsRow 100 = .ok (.iload_n 2, 1) := by decide +kernel
theorem dX12_readsRow_101 : decode cX12_readsRow 101 = .ok (.iconst 0, 1) := by decide +kernel
theorem dX12_readsRow_102 : decode cX12_readsRow 102 = .ok (.iastore, 1) := by decide +kernel
theorem dX12_readsRow_103 : decode cX12_readsRow 103 = .ok (.aload_n 0, 1) := by decide +kernel
theorem dX12_readsRow_104 : decode cX12_readsRow 104 = .ok (.invokevirtual 147, 3) := by decide +kernel
theorem dX12_readsRow_107 : decode cX12_readsRow 107 = .ok (.ifCond .eq 20, 3) := by decide +kernel
theorem dX12_readsRow_110 : decode cX12_readsRow 110 = .ok (.aload_n 0, 1) := by decide +kernel
theorem dX12_readsRow_111 : decode cX12_readsRow 111 = .ok (.invokevirtual 119, 3) := by decide +kernel
theorem dX12_readsRow_114 : decode cX12_readsRow 114 = .ok (.bipush 46, 2) := by decide +kernel
theorem dX12_readsRow_116 : decode cX12_readsRow 116 = .ok (.if_icmp .ne 11, 3) := by decide +kernel
theorem dX12_readsRow_119 : decode cX12_readsRow 119 = .ok (.aload_n 0, 1) := by decide +kernel
theorem dX12_readsRow_120 : decode cX12_readsRow 120 = .ok (.iload_n 2, 1) := by decide +kernel
theorem dX12_readsRow_121 : decode cX12_readsRow 121 = .ok (.invokevirtual 171, 3) := by decide +kernel
theorem dX12_readsRow_124 : decode cX12_readsRow 124 = .ok (.goto (-21), 3) := by decide +kernel
theorem dX12_readsRow_127 : decode cX12_readsRow 127 = .ok (.aload_n 0, 1) := by decide +kernel
theorem dX12_readsRow_128 : decode cX12_readsRow 128 = .ok (.invokevirtual 147, 3) := by decide +kernel
theorem dX12_readsRow_131 : decode cX12_readsRow 131 = .ok (.ifCond .eq 19, 3) := by decide +kernel
theorem dX12_readsRow_134 : decode cX12_readsRow 134 = .ok (.aload_n 0, 1) := by decide +kernel
theorem dX12_readsRow_135 : decode cX12_readsRow 135 = .ok (.invokevirtual 168, 3) := by decide +kernel
theorem dX12_readsRow_138 : decode cX12_readsRow 138 = .ok (.ifCond .ne 12, 3) := by decide +kernel
theorem dX12_readsRow_141 : decode cX12_readsRow 141 = .ok (.aload_n 0, 1) := by decide +kernel
theorem dX12_readsRow_142 : decode cX12_readsRow 142 = .ok (.iconst 1, 1) := by decide +kernel
theorem dX12_readsRow_143 : decode cX12_readsRow 143 = .ok (.aload_n 0, 1) := by decide +kernel
theorem dX12_readsRow_144 : decode cX12_readsRow 144 = .ok (.getfield 113, 3) := by decide +kernel
theorem dX12_readsRow_147 : decode cX12_readsRow 147 = .ok (.invokevirtual 134, 3) := by decide +kernel
theorem dX12_readsRow_150 : decode cX12_readsRow 150 = .ok (.aload_n 0, 1) := by decide +kernel
theorem dX12_readsRow_151 : decode cX12_readsRow 151 = .ok (.invokevirtual 147, 3) := by decide +kernel
theorem dX12_readsRow_154 : decode cX12_readsRow 154 = .ok (.ifCond .eq 18, 3) := by decide +kernel
theorem dX12_readsRow_157 : decode cX12_readsRow 157 = .ok (.aload_n 0, 1) := by decide +kernel
theorem dX12_readsRow_158 : decode cX12_readsRow 158 = .ok (.invokevirtual 168, 3) := by decide +kernel
theorem dX12_readsRow_161 : decode cX12_readsRow 161 = .ok (.ifCond .eq 11, 3) := by decide +kernel
theorem dX12_readsRow_164 : decode cX12_readsRow 164 = .ok (.aload_n 0, 1) := by decide +kernel
theorem dX12_readsRow_165 : decode cX12_readsRow 165 = .ok (.iload_n 2, 1) := by decide +kernel
theorem dX12_readsRow_166 : decode cX12_readsRow 166 = .ok (.invokevirtual 171, 3) := by decide +kernel
theorem dX12_readsRow_169 : decode cX12_readsRow 169 = .ok (.goto (-19), 3) := by decide +kernel
theorem dX12_readsRow_172 : decode cX12_readsRow 172 = .ok (.aload_n 0, 1) := by decide +kernel
theorem dX12_readsRow_173 : decode cX12_readsRow 173 = .ok (.invokevirtual 147, 3) := by decide +kernel
theorem dX12_readsRow_176 : decode cX12_readsRow 176 = .ok (.ifCond .eq 20, 3) := by decide +kernel
theorem dX12_readsRow_179 : decode cX12_readsRow 179 = .ok (.aload_n 0, 1) := by decide +kernel
theorem dX12_readsRow_180 : decode cX12_readsRow 180 = .ok (.invokevirtual 119, 3) := by decide +kernel
theorem dX12_readsRow_183 : decode cX12_readsRow 183 = .ok (.bipush 46, 2) := by decide +kernel
theorem dX12_readsRow_185 : decode cX12_readsRow 185 = .ok (.if_icmp .ne 11, 3) := by decide +kernel
theorem dX12_readsRow_188 : decode cX12_readsRow 188 = .ok (.aload_n 0, 1) := by decide +kernel
theorem dX12_readsRow_189 : decode cX12_readsRow 189 = .ok (.iload_n 2, 1) := by decide +kernel
theorem dX12_readsRow_190 : decode cX12_readsRow 190 = .ok (.invokevirtual 171, 3) := by decide +kernel
theorem dX12_readsRow_193 : decode cX12_readsRow 193 = .ok (.goto (-21), 3) := by decide +kernel
theorem dX12_readsRow_196 : decode cX12_readsRow 196 = .ok (.aload_n 0, 1) := by decide +kernel
theorem dX12_readsRow_197 : decode cX12_readsRow 197 = .ok (.getfield 20, 3) := by decide +kernel
theorem dX12_readsRow_200 : decode cX12_readsRow 200 = .ok (.aload_n 0, 1) := by decide +kernel
theorem dX12_readsRow_201 : decode cX12_readsRow 201 = .ok (.getfield 165, 3) := by decide +kernel
theorem dX12_readsRow_204 : decode cX12_readsRow 204 = .ok (.dup2, 1) := by decide +kernel
theorem dX12_readsRow_205 : decode cX12_readsRow 205 = .ok (.iaload, 1) := by decide +kernel
theorem dX12_readsRow_206 : decode cX12_readsRow 206 = .ok (.iconst 1, 1) := by decide +kernel
theorem dX12_readsRow_207 : decode cX12_readsRow 207 = .ok (.iadd, 1) := by decide +kernel
theorem dX12_readsRow_208 : decode cX12_readsRow 208 = .ok (.iastore, 1) := by decide +kernel
theorem dX12_readsRow_209 : decode cX12_readsRow 209 = .ok (.return_, 1) := by decide +kernel
noncomputable def f_X12_readsRow_L103 (x2 : Int32) (s : (ZMem)) : Option ((ZMem) ⊕ (ZMem)) := zbind (f_X12_isRight s) (fun r_104 => if r_104 = (zI 0) then some (.inr s) else zbind (f_X12_sign s) (fun r_111 => if r_111 = (zI 46) then zbind (f_X12_placeTaken s x2) (fun M_121 => some (.inl M_121)) else some (.inr s)))
set_option maxRecDepth 100000 in
set_option maxHeartbeats 4000000 in
theorem w_X12_readsRow_L103 {E : ZEv} {G : ZG} {K : ZMem → Prop} (h : zRu lyR E G (zRv K) cX12_readsRow RX12 3 none 3) (x2 : Int32) (s : (ZMem)) (hk : zOk (zloop (f_X12_readsRow_L103 x2) s) (fun e => G e 127 [(0, zrf E 0), (2, .int x2)] [])) : G s 103 [(0, zrf E 0), (2, .int x2)] [] := by
  refine zloop_walk (P := fun s => G s 103 [(0, zrf E 0), (2, .int x2)] []) hk (fun s hk => ?_)
  unfold f_X12_readsRow_L103 at hk
  refine zr_aload_n h dX12_readsRow_103 0 rfl rfl ?_
  refine zr_callVp h lR_0 zcw_X12_147 (by decide) (c_X12_isRight E s _ (zOk_bind hk)) rfl rfl (Nat.le_of_ble_eq_true rfl) dX12_readsRow_104 (fun r_104 hk => ?_)
  refine zr_if_eq (tgt := 127) h dX12_readsRow_107 (by decide) (fun c => ?_) (fun c => ?_)
  · have hk := zOk_t c hk
    have hk := zOk_some hk
    exact zr_weak h [0, 1] rfl hk
  · have hk := zOk_f c hk
    refine zr_aload_n h dX12_readsRow_110 0 rfl rfl ?_
    refine zr_callVp h lR_0 zcw_X12_119 (by decide) (c_X12_sign E s _ (zOk_bind hk)) rfl rfl (Nat.le_of_ble_eq_true rfl) dX12_readsRow_111 (fun r_111 hk => ?_)
    refine zr_bipush (v := (zI 46)) h dX12_readsRow_114 (by decide) ?_
    refine zr_icmp_ne (tgt := 127) h dX12_readsRow_116 (by decide) (fun c => ?_) (fun c => ?_)
    · have hk := zOk_t c hk
      refine zr_aload_n h dX12_readsRow_119 0 rfl rfl ?_
      refine zr_iload_n h dX12_readsRow_120 1 rfl rfl ?_
      refine zr_callVv h lR_0 zcw_X12_171 (by decide) (c_X12_placeTaken E s x2 _ (zOk_bind hk)) rfl rfl (Nat.le_of_ble_eq_true rfl) dX12_readsRow_121 (fun M_121 hk => ?_)
      refine zr_goto (tgt := 103) h dX12_readsRow_124 (by decide) ?_
      have hk := zOk_some hk
      exact zr_weak h [0, 1] rfl hk
    · have hk := zOk_f c hk
      have hk := zOk_some hk
      exact zr_weak h [0, 1] rfl hk
noncomputable def f_X12_readsRow_L150 (x2 : Int32) (s : (ZMem)) : Option ((ZMem) ⊕ (ZMem)) := zbind (f_X12_isRight s) (fun r_151 => if r_151 = (zI 0) then some (.inr s) else zbind (f_X12_isLetter s) (fun r_158 => if r_158 = (zI 0) then some (.inr s) else zbind (f_X12_placeTaken s x2) (fun M_166 => some (.inl M_166))))
set_option maxRecDepth 100000 in
set_option maxHeartbeats 4000000 in
theorem w_X12_readsRow_L150 {E : ZEv} {G : ZG} {K : ZMem → Prop} (h : zRu lyR E G (zRv K) cX12_readsRow RX12 3 none 3) (x2 : Int32) (s : (ZMem)) (hk : zOk (zloop (f_X12_readsRow_L150 x2) s) (fun e => G e 172 [(0, zrf E 0), (2, .int x2)] [])) : G s 150 [(0, zrf E 0), (2, .int x2)] [] := by
  refine zloop_walk (P := fun s => G s 150 [(0, zrf E 0), (2, .int x2)] []) hk (fun s hk => ?_)
  unfold f_X12_readsRow_L150 at hk
  refine zr_aload_n h dX12_readsRow_150 0 rfl rfl ?_
  refine zr_callVp h lR_0 zcw_X12_147 (by decide) (c_X12_isRight E s _ (zOk_bind hk)) rfl rfl (Nat.le_of_ble_eq_true rfl) dX12_readsRow_151 (fun r_151 hk => ?_)
  refine zr_if_eq (tgt := 172) h dX12_readsRow_154 (by decide) (fun c => ?_) (fun c => ?_)
  · have hk := zOk_t c hk
    have hk := zOk_some hk
    exact zr_weak h [0, 1] rfl hk
  · have hk := zOk_f c hk
    refine zr_aload_n h dX12_readsRow_157 0 rfl rfl ?_
    refine zr_callVp h lR_0 zcw_X12_168 (by decide) (c_X12_isLetter E s _ (zOk_bind hk)) rfl rfl (Nat.le_of_ble_eq_true rfl) dX12_readsRow_158 (fun r_158 hk => ?_)
    refine zr_if_eq (tgt := 172) h dX12_readsRow_161 (by decide) (fun c => ?_) (fun c => ?_)
    · have hk := zOk_t c hk
      have hk := zOk_some hk
      exact zr_weak h [0, 1] rfl hk
    · have hk := zOk_f c hk
      refine zr_aload_n h dX12_readsRow_164 0 rfl rfl ?_
      refine zr_iload_n h dX12_readsRow_165 1 rfl rfl ?_
      refine zr_callVv h lR_0 zcw_X12_171 (by decide) (c_X12_placeTaken E s x2 _ (zOk_bind hk)) rfl rfl (Nat.le_of_ble_eq_true rfl) dX12_readsRow_166 (fun M_166 hk => ?_)
      refine zr_goto (tgt := 150) h dX12_readsRow_169 (by decide) ?_
      have hk := zOk_some hk
      exact zr_weak h [0, 1] rfl hk
noncomputable def f_X12_readsRow_L172 (x2 : Int32) (s : (ZMem)) : Option ((ZMem) ⊕ (ZMem)) := zbind (f_X12_isRight s) (fun r_173 => if r_173 = (zI 0) then some (.inr s) else zbind (f_X12_sign s) (fun r_180 => if r_180 = (zI 46) then zbind (f_X12_placeTaken s x2) (fun M_190 => some (.inl M_190)) else some (.inr s)))
set_option maxRecDepth 100000 in
set_option maxHeartbeats 4000000 in
theorem w_X12_readsRow_L172 {E : ZEv} {G : ZG} {K : ZMem → Prop} (h : zRu lyR E G (zRv K) cX12_readsRow RX12 3 none 3) (x2 : Int32) (s : (ZMem)) (hk : zOk (zloop (f_X12_readsRow_L172 x2) s) (fun e => G e 196 [(0, zrf E 0)] [])) : G s 172 [(0, zrf E 0), (2, .int x2)] [] := by
  refine zloop_walk (P := fun s => G s 172 [(0, zrf E 0), (2, .int x2)] []) hk (fun s hk => ?_)
  unfold f_X12_readsRow_L172 at hk
  refine zr_aload_n h dX12_readsRow_172 0 rfl rfl ?_
  refine zr_callVp h lR_0 zcw_X12_147 (by decide) (c_X12_isRight E s _ (zOk_bind hk)) rfl rfl (Nat.le_of_ble_eq_true rfl) dX12_readsRow_173 (fun r_173 hk => ?_)
  refine zr_if_eq (tgt := 196) h dX12_readsRow_176 (by decide) (fun c => ?_) (fun c => ?_)
  · have hk := zOk_t c hk
    have hk := zOk_some hk
    exact zr_weak h [0] rfl hk
  · have hk := zOk_f c hk
    refine zr_aload_n h dX12_readsRow_179 0 rfl rfl ?_
    refine zr_callVp h lR_0 zcw_X12_119 (by decide) (c_X12_sign E s _ (zOk_bind hk)) rfl rfl (Nat.le_of_ble_eq_true rfl) dX12_readsRow_180 (fun r_180 hk => ?_)
    refine zr_bipush (v := (zI 46)) h dX12_readsRow_183 (by decide) ?_
    refine zr_icmp_ne (tgt := 196) h dX12_readsRow_185 (by decide) (fun c => ?_) (fun c => ?_)
    · have hk := zOk_t c hk
      refine zr_aload_n h dX12_readsRow_188 0 rfl rfl ?_
      refine zr_iload_n h dX12_readsRow_189 1 rfl rfl ?_
      refine zr_callVv h lR_0 zcw_X12_171 (by decide) (c_X12_placeTaken E s x2 _ (zOk_bind hk)) rfl rfl (Nat.le_of_ble_eq_true rfl) dX12_readsRow_190 (fun M_190 hk => ?_)
      refine zr_goto (tgt := 172) h dX12_readsRow_193 (by decide) ?_
      have hk := zOk_some hk
      exact zr_weak h [0, 1] rfl hk
    · have hk := zOk_f c hk
      have hk := zOk_some hk
      exact zr_weak h [0] rfl hk
noncomputable def f_X12_readsRow_150 (M : ZMem) (x2 : Int32) : Option ZMem := zbind (zloop (f_X12_readsRow_L150 x2) M) (fun e150 => zbind (zloop (f_X12_readsRow_L172 x2) e150) (fun e172 => zchk (zin (e172.1 0 8) 7) (zchk (zin (e172.1 0 8) 7) (zbnd (zstI e172 4 (zix (e172.1 0 8)) ((e172.1 4 (zix (e172.1 0 8))) + (zI 1))) (fun M_208 => some M_208)))))
set_option maxRecDepth 100000 in
set_option maxHeartbeats 4000000 in
theorem w_X12_readsRow_150 {E : ZEv} {G : ZG} {K : ZMem → Prop} (h : zRu lyR E G (zRv K) cX12_readsRow RX12 3 none 3) (M : ZMem) (x2 : Int32) (hk : zOk (f_X12_readsRow_150 M x2) K) : G M 150 [(0, zrf E 0), (2, .int x2)] [] := by
  unfold f_X12_readsRow_150 at hk
  refine w_X12_readsRow_L150 h x2 M (zOk_mono (zOk_bind hk) (fun e150 hk => ?_))
  refine w_X12_readsRow_L172 h x2 e150 (zOk_mono (zOk_bind hk) (fun e172 hk => ?_))
  refine zr_aload_n h dX12_readsRow_196 0 rfl rfl ?_
  refine zr_getR h zfo_X12_20 lR_0 rfl dX12_readsRow_197 ?_
  refine zr_aload_n h dX12_readsRow_200 0 rfl rfl ?_
  refine zr_getI h zfo_X12_165 lR_0 rfl dX12_readsRow_201 ?_
  refine zr_dup2_11 h dX12_readsRow_204 rfl rfl ?_
  have hb := zOk_chk hk
  have hk := hb.2
  refine zr_iald h lR_4 hb.1 dX12_readsRow_205 ?_
  refine zr_iconst (v := (zI 1)) h dX12_readsRow_206 rfl ?_
  refine zr_iadd h dX12_readsRow_207 ?_
  have hb := zOk_chk hk
  have hk := hb.2
  refine zr_iast h lR_4 hb.1 dX12_readsRow_208 ?_
  refine zr_mem (fun M_208 eM => ?_)
  have hk := zOk_bnd eM hk
  have hk := zOk_some hk
  exact zr_vret h dX12_readsRow_209 ⟨rfl, hk⟩
noncomputable def f_X12_readsRow_79 (M : ZMem) (x1 : Int32) : Option ZMem := zbind (f_X12_isRight M) (fun r_80 => if r_80 = (zI 0) then some M else zbnd (((zI 4) * (M.1 0 8)) + x1) (fun x2_95 => zchk (zin x2_95 28) (zbnd (zstI M 5 (zix x2_95) (zI 0)) (fun M_102 => zbind (zloop (f_X12_readsRow_L103 x2_95) M_102) (fun e103 => zbind (f_X12_isRight e103) (fun r_128 => if r_128 = (zI 0) then f_X12_readsRow_150 e103 x2_95 else zbind (f_X12_isLetter e103) (fun r_135 => if r_135 = (zI 0) then zbind (f_X12_fails e103 (zI 1) (e103.1 0 2)) (fun M_147 => f_X12_readsRow_150 M_147 x2_95) else f_X12_readsRow_150 e103 x2_95)))))))
set_option maxRecDepth 100000 in
set_option maxHeartbeats 4000000 in
theorem w_X12_readsRow_79 {E : ZEv} {G : ZG} {K : ZMem → Prop} (h : zRu lyR E G (zRv K) cX12_readsRow RX12 3 none 3) (M : ZMem) (x1 : Int32) (hk : zOk (f_X12_readsRow_79 M x1) K) : G M 79 [(0, zrf E 0), (1, .int x1)] [] := by
  unfold f_X12_readsRow_79 at hk
  refine zr_aload_n h dX12_readsRow_79 0 rfl rfl ?_
  refine zr_callVp h lR_0 zcw_X12_147 (by decide) (c_X12_isRight E M _ (zOk_bind hk)) rfl rfl (Nat.le_of_ble_eq_true rfl) dX12_readsRow_80 (fun r_80 hk => ?_)
  refine zr_if_ne (tgt := 87) h dX12_readsRow_83 (by decide) (fun c => ?_) (fun c => ?_)
  · have hk := zOk_t c hk
    have hk := zOk_some hk
    exact zr_vret h dX12_readsRow_86 ⟨rfl, hk⟩
  · have hk := zOk_f c hk
    refine zr_iconst (v := (zI 4)) h dX12_readsRow_87 rfl ?_
    refine zr_aload_n h dX12_readsRow_88 0 rfl rfl ?_
    refine zr_getI h zfo_X12_165 lR_0 rfl dX12_readsRow_89 ?_
    refine zr_imul h dX12_readsRow_92 ?_
    refine zr_iload_n h dX12_readsRow_93 1 rfl rfl ?_
    refine zr_iadd h dX12_readsRow_94 ?_
    refine zr_topi (fun x2_95 ex => ?_)
    have hk := zOk_bnd ex hk
    refine zr_istore_n (L' := [(0, zrf E 0), (2, .int x2_95)]) h [1, 0] dX12_readsRow_95 rfl (by decide) rfl ?_
    refine zr_aload_n h dX12_readsRow_96 0 rfl rfl ?_
    refine zr_getR h zfo_X12_23 lR_0 rfl dX12_readsRow_97 ?_
    refine zr_iload_n h dX12_readsRow_100 1 rfl rfl ?_
    refine zr_iconst (v := (zI 0)) h dX12_readsRow_101 rfl ?_
    have hb := zOk_chk hk
    have hk := hb.2
    refine zr_iast h lR_5 hb.1 dX12_readsRow_102 ?_
    refine zr_mem (fun M_102 eM => ?_)
    have hk := zOk_bnd eM hk
    refine w_X12_readsRow_L103 h x2_95 M_102 (zOk_mono (zOk_bind hk) (fun e103 hk => ?_))
    refine zr_aload_n h dX12_readsRow_127 0 rfl rfl ?_
    refine zr_callVp h lR_0 zcw_X12_147 (by decide) (c_X12_isRight E e103 _ (zOk_bind hk)) rfl rfl (Nat.le_of_ble_eq_true rfl) dX12_readsRow_128 (fun r_128 hk => ?_)
    refine zr_if_eq (tgt := 150) h dX12_readsRow_131 (by decide) (fun c => ?_) (fun c => ?_)
    · have hk := zOk_t c hk
      exact w_X12_readsRow_150 h e103 x2_95 hk
    · have hk := zOk_f c hk
      refine zr_aload_n h dX12_readsRow_134 0 rfl rfl ?_
      refine zr_callVp h lR_0 zcw_X12_168 (by decide) (c_X12_isLetter E e103 _ (zOk_bind hk)) rfl rfl (Nat.le_of_ble_eq_true rfl) dX12_readsRow_135 (fun r_135 hk => ?_)
      refine zr_if_ne (tgt := 150) h dX12_readsRow_138 (by decide) (fun c => ?_) (fun c => ?_)
      · have hk := zOk_t c hk
        refine zr_aload_n h dX12_readsRow_141 0 rfl rfl ?_
        refine zr_iconst (v := (zI 1)) h dX12_readsRow_142 rfl ?_
        refine zr_aload_n h dX12_readsRow_143 0 rfl rfl ?_
        refine zr_getI h zfo_X12_113 lR_0 rfl dX12_readsRow_144 ?_
        refine zr_callVv h lR_0 zcw_X12_134 (by decide) (c_X12_fails E e103 (zI 1) (e103.1 0 2) _ (zOk_bind hk)) rfl rfl (Nat.le_of_ble_eq_true rfl) dX12_readsRow_147 (fun M_147 hk => ?_)
        exact w_X12_readsRow_150 h M_147 x2_95 hk
      · have hk := zOk_f c hk
        exact w_X12_readsRow_150 h e103 x2_95 hk
noncomputable def f_X12_readsRow_70 (M : ZMem) (x1 : Int32) : Option ZMem := zbind (f_X12_fails M (zI 3) (M.1 0 2)) (fun M_76 => f_X12_readsRow_79 M_76 x1)
set_option maxRecDepth 100000 in
set_option maxHeartbeats 4000000 in
theorem w_X12_readsRow_70 {E : ZEv} {G : ZG} {K : ZMem → Prop} (h : zRu lyR E G (zRv K) cX12_readsRow RX12 3 none 3) (M : ZMem) (x1 : Int32) (hk : zOk (f_X12_readsRow_70 M x1) K) : G M 70 [(0, zrf E 0), (1, .int x1)] [] := by
  unfold f_X12_readsRow_70 at hk
  refine zr_aload_n h dX12_readsRow_70 0 rfl rfl ?_
  refine zr_iconst (v := (zI 3)) h dX12_readsRow_71 rfl ?_
  refine zr_aload_n h dX12_readsRow_72 0 rfl rfl ?_
  refine zr_getI h zfo_X12_113 lR_0 rfl dX12_readsRow_73 ?_
  refine zr_callVv h lR_0 zcw_X12_134 (by decide) (c_X12_fails E M (zI 3) (M.1 0 2) _ (zOk_bind hk)) rfl rfl (Nat.le_of_ble_eq_true rfl) dX12_readsRow_76 (fun M_76 hk => ?_)
  exact w_X12_readsRow_79 h M_76 x1 hk
noncomputable def f_X12_readsRow_35 (M : ZMem) (x1 : Int32) : Option ZMem := if x1 = (zI 4) then zbind (f_X12_isLetter M) (fun r_41 => if r_41 = (zI 0) then f_X12_readsRow_70 M x1 else zbind (f_X12_sign M) (fun r_48 => if (r_48 - (zI 97)) < (M.1 0 4) then f_X12_readsRow_70 M x1 else zbind (f_X12_fails M (zI 2) (M.1 0 2)) (fun M_67 => f_X12_readsRow_70 M_67 x1))) else f_X12_readsRow_79 M x1
set_option maxRecDepth 100000 in
set_option maxHeartbeats 4000000 in
theorem w_X12_readsRow_35 {E : ZEv} {G : ZG} {K : ZMem → Prop} (h : zRu lyR E G (zRv K) cX12_readsRow RX12 3 none 3) (M : ZMem) (x1 : Int32) (hk : zOk (f_X12_readsRow_35 M x1) K) : G M 35 [(0, zrf E 0), (1, .int x1)] [] := by
  unfold f_X12_readsRow_35 at hk
  refine zr_iload_n h dX12_readsRow_35 1 rfl rfl ?_
  refine zr_iconst (v := (zI 4)) h dX12_readsRow_36 rfl ?_
  refine zr_icmp_ne (tgt := 79) h dX12_readsRow_37 (by decide) (fun c => ?_) (fun c => ?_)
  · have hk := zOk_t c hk
    refine zr_aload_n h dX12_readsRow_40 0 rfl rfl ?_
    refine zr_callVp h lR_0 zcw_X12_168 (by decide) (c_X12_isLetter E M _ (zOk_bind hk)) rfl rfl (Nat.le_of_ble_eq_true rfl) dX12_readsRow_41 (fun r_41 hk => ?_)
    refine zr_if_eq (tgt := 70) h dX12_readsRow_44 (by decide) (fun c => ?_) (fun c => ?_)
    · have hk := zOk_t c hk
      exact w_X12_readsRow_70 h M x1 hk
    · have hk := zOk_f c hk
      refine zr_aload_n h dX12_readsRow_47 0 rfl rfl ?_
      refine zr_callVp h lR_0 zcw_X12_119 (by decide) (c_X12_sign E M _ (zOk_bind hk)) rfl rfl (Nat.le_of_ble_eq_true rfl) dX12_readsRow_48 (fun r_48 hk => ?_)
      refine zr_bipush (v := (zI 97)) h dX12_readsRow_51 (by decide) ?_
      refine zr_isub h dX12_readsRow_53 ?_
      refine zr_aload_n h dX12_readsRow_54 0 rfl rfl ?_
      refine zr_getI h zfo_X12_162 lR_0 rfl dX12_readsRow_55 ?_
      refine zr_icmp_lt (tgt := 70) h dX12_readsRow_58 (by decide) (fun c => ?_) (fun c => ?_)
      · have hk := zOk_t c hk
        exact w_X12_readsRow_70 h M x1 hk
      · have hk := zOk_f c hk
        refine zr_aload_n h dX12_readsRow_61 0 rfl rfl ?_
        refine zr_iconst (v := (zI 2)) h dX12_readsRow_62 rfl ?_
        refine zr_aload_n h dX12_readsRow_63 0 rfl rfl ?_
        refine zr_getI h zfo_X12_113 lR_0 rfl dX12_readsRow_64 ?_
        refine zr_callVv h lR_0 zcw_X12_134 (by decide) (c_X12_fails E M (zI 2) (M.1 0 2) _ (zOk_bind hk)) rfl rfl (Nat.le_of_ble_eq_true rfl) dX12_readsRow_67 (fun M_67 hk => ?_)
        exact w_X12_readsRow_70 h M_67 x1 hk
  · have hk := zOk_f c hk
    exact w_X12_readsRow_79 h M x1 hk
noncomputable def f_X12_readsRow (M : ZMem) : Option ZMem := zchk (zin (M.1 0 8) 7) (zbnd (M.1 4 (zix (M.1 0 8))) (fun x1_9 => zbind (f_X12_isLetter M) (fun r_11 => if r_11 = (zI 0) then zbind (f_X12_sign M) (fun r_18 => if r_18 = (zI 46) then f_X12_readsRow_35 M x1_9 else zbind (f_X12_fails M (zI 1) (M.1 0 2)) (fun M_32 => f_X12_readsRow_35 M_32 x1_9)) else f_X12_readsRow_35 M x1_9)))
set_option maxRecDepth 100000 in
set_option maxHeartbeats 4000000 in
theorem c_X12_readsRow (E : ZEv) (M : ZMem) (K : ZMem → Prop) (hk : zOk (f_X12_readsRow M) K) : zCon lyR E yX12_readsRow cX12_readsRow 3 none 3 [zrf E 0] M (zRv K) := by
  refine zcon_of (L0 := [(0, zrf E 0)]) (by decide) rfl (Nat.le_of_ble_eq_true rfl) (fun G h => ?_)
  have h : zRu lyR E G (zRv K) cX12_readsRow RX12 3 none 3 := h
  unfold f_X12_readsRow at hk
  refine zr_aload_n h dX12_readsRow_0 0 rfl rfl ?_
  refine zr_getR h zfo_X12_20 lR_0 rfl dX12_readsRow_1 ?_
  refine zr_aload_n h dX12_readsRow_4 0 rfl rfl ?_
  refine zr_getI h zfo_X12_165 lR_0 rfl dX12_readsRow_5 ?_
  have hb := zOk_chk hk
  have hk := hb.2
  refine zr_iald h lR_4 hb.1 dX12_readsRow_8 ?_
  refine zr_topi (fun x1_9 ex => ?_)
  have hk := zOk_bnd ex hk
  refine zr_istore_n (L' := [(0, zrf E 0), (1, .int x1_9)]) h [1, 0] dX12_readsRow_9 rfl (by decide) rfl ?_
  refine zr_aload_n h dX12_readsRow_10 0 rfl rfl ?_
  refine zr_callVp h lR_0 zcw_X12_168 (by decide) (c_X12_isLetter E M _ (zOk_bind hk)) rfl rfl (Nat.le_of_ble_eq_true rfl) dX12_readsRow_11 (fun r_11 hk => ?_)
  refine zr_if_ne (tgt := 35) h dX12_readsRow_14 (by decide) (fun c => ?_) (fun c => ?_)
  · have hk := zOk_t c hk
    refine zr_aload_n h dX12_readsRow_17 0 rfl rfl ?_
    refine zr_callVp h lR_0 zcw_X12_119 (by decide) (c_X12_sign E M _ (zOk_bind hk)) rfl rfl (Nat.le_of_ble_eq_true rfl) dX12_readsRow_18 (fun r_18 hk => ?_)
    refine zr_bipush (v := (zI 46)) h dX12_readsRow_21 (by decide) ?_
    refine zr_icmp_eq (tgt := 35) h dX12_readsRow_23 (by decide) (fun c => ?_) (fun c => ?_)
    · have hk := zOk_t c hk
      exact w_X12_readsRow_35 h M x1_9 hk
    · have hk := zOk_f c hk
      refine zr_aload_n h dX12_readsRow_26 0 rfl rfl ?_
      refine zr_iconst (v := (zI 1)) h dX12_readsRow_27 rfl ?_
      refine zr_aload_n h dX12_readsRow_28 0 rfl rfl ?_
      refine zr_getI h zfo_X12_113 lR_0 rfl dX12_readsRow_29 ?_
      refine zr_callVv h lR_0 zcw_X12_134 (by decide) (c_X12_fails E M (zI 1) (M.1 0 2) _ (zOk_bind hk)) rfl rfl (Nat.le_of_ble_eq_true rfl) dX12_readsRow_32 (fun M_32 hk => ?_)
      exact w_X12_readsRow_35 h M_32 x1_9 hk
  · have hk := zOk_f c hk
    exact w_X12_readsRow_35 h M x1_9 hk
theorem dX12_stone_0 : decode cX12_stone 0 = .ok (.aload_n 0, 1) := by decide +kernel
theorem dX12_stone_1 : decode cX12_stone 1 = .ok (.getfield 165, 3) := by decide +kernel
theorem dX12_stone_4 : decode cX12_stone 4 = .ok (.bipush 6, 2) := by decide +kernel
theorem dX12_stone_6 : decode cX12_stone 6 = .ok (.if_icmp .ne 5, 3) := by decide +kernel
theorem dX12_stone_9 : decode cX12_stone 9 = .ok (.iconst (-1), 1) := by decide +kernel
theorem dX12_stone_10 : decode cX12_stone 10 = .ok (.ireturn, 1) := by decide +kernel
theorem dX12_stone_11 : decode cX12_stone 11 = .ok (.aload_n 0, 1) := by decide +kernel
theorem dX12_stone_12 : decode cX12_stone 12 = .ok (.invokevirtual 156, 3) := by decide +kernel
theorem dX12_stone_15 : decode cX12_stone 15 = .ok (.aload_n 0, 1) := by decide +kernel
theorem dX12_stone_16 : decode cX12_stone 16 = .ok (.getfield 20, 3) := by decide +kernel
theorem dX12_stone_19 : decode cX12_stone 19 = .ok (.aload_n 0, 1) := by decide +kernel
theorem dX12_stone_20 : decode cX12_stone 20 = .ok (.getfield 165, 3) := by decide +kernel
theorem dX12_stone_23 : decode cX12_stone 23 = .ok (.iconst 0, 1) := by decide +kernel
theorem dX12_stone_24 : decode cX12_stone 24 = .ok (.iastore, 1) := by decide +kernel
theorem dX12_stone_25 : decode cX12_stone 25 = .ok (.iconst 1, 1) := by decide +kernel
theorem dX12_stone_26 : decode cX12_stone 26 = .ok (.istore_n 1, 1) := by decide +kernel
theorem dX12_stone_27 : decode cX12_stone 27 = .ok (.iload_n 1, 1) := by decide +kernel
theorem dX12_stone_28 : decode cX12_stone 28 = .ok (.ifCond .eq 45, 3) := by decide +kernel
theorem dX12_stone_31 : decode cX12_stone 31 = .ok (.aload_n 0, 1) := by decide +kernel
theorem dX12_stone_32 : decode cX12_stone 32 = .ok (.invokevirtual 174, 3) := by decide +kernel
theorem dX12_stone_35 : decode cX12_stone 35 = .ok (.aload_n 0, 1) := by decide +kernel
theorem dX12_stone_36 : decode cX12_stone 36 = .ok (.invokevirtual 147, 3) := by decide +kernel
theorem dX12_stone_39 : decode cX12_stone 39 = .ok (.ifCond .eq 16, 3) := by decide +kernel
theorem dX12_stone_42 : decode cX12_stone 42 = .ok (.aload_n 0, 1) := by decide +kernel
theorem dX12_stone_43 : decode cX12_stone 43 = .ok (.invokevirtual 119, 3) := by decide +kernel
theorem dX12_stone_46 : decode cX12_stone 46 = .ok (.bipush 47, 2) := by decide +kernel
theorem dX12_stone_48 : decode cX12_stone 48 = .ok (.if_icmp .ne 7, 3) := by decide +kernel
theorem dX12_stone_51 : decode cX12_stone 51 = .ok (.iconst 1, 1) := by decide +kernel
theorem dX12_stone_52 : decode cX12_stone 52 = .ok (.goto 4, 3) := by decide +kernel
theorem dX12_stone_55 : decode cX12_stone 55 = .ok (.iconst 0, 1) := by decide +kernel
theorem dX12_stone_56 : decode cX12_stone 56 = .ok (.istore_n 1, 1) := by decide +kernel
theorem dX12_stone_57 : decode cX12_stone 57 = .ok (.aload_n 0, 1) := by decide +kernel
theorem dX12_stone_58 : decode cX12_stone 58 = .ok (.dup, 1) := by decide +kernel
theorem dX12_stone_59 : decode cX12_stone 59 = .ok (.getfield 113, 3) := by decide +kernel
theorem dX12_stone_62 : decode cX12_stone 62 = .ok (.iload_n 1, 1) := by decide +kernel
theorem dX12_stone_63 : decode cX12_stone 63 = .ok (.invokestatic 177, 3) := by decide +kernel
theorem dX12_stone_66 : decode cX12_stone 66 = .ok (.iadd, 1) := by decide +kernel
theorem dX12_stone_67 : decode cX12_stone 67 = .ok (.putfield 113, 3) := by decide +kernel
theorem dX12_stone_70 : decode cX12_stone 70 = .ok (.goto (-43), 3) := by decide +kernel
theorem dX12_stone_73 : decode cX12_stone 73 = .ok (.aload_n 0, 1) := by decide +kernel
theorem dX12_stone_74 : decode cX12_stone 74 = .ok (.invokevirtual 147, 3) := by decide +kernel
theorem dX12_stone_77 : decode cX12_stone 77 = .ok (.ifCond .eq 20, 3) := by decide +kernel
theorem dX12_stone_80 : decode cX12_stone 80 = .ok (.aload_n 0, 1) := by decide +kernel
theorem dX12_stone_81 : decode cX12_stone 81 = .ok (.invokevirtual 119, 3) := by decide +kernel
theorem dX12_stone_84 : decode cX12_stone 84 = .ok (.iconst (-1), 1) := by decide +kernel
theorem dX12_stone_85 : decode cX12_stone 85 = .ok (.if_icmp .eq 12, 3) := by decide +kernel
theorem dX12_stone_88 : decode cX12_stone 88 = .ok (.aload_n 0, 1) := by decide +kernel
theorem dX12_stone_89 : decode cX12_stone 89 = .ok (.iconst 1, 1) := by decide +kernel
theorem dX12_stone_90 : decode cX12_stone 90 = .ok (.aload_n 0, 1) := by decide +kernel
theorem dX12_stone_91 : decode cX12_stone 91 = .ok (.getfield 113, 3) := by decide +kernel
theorem dX12_stone_94 : decode cX12_stone 94 = .ok (.invokevirtual 134, 3) := by decide +kernel
theorem dX12_stone_97 : decode cX12_stone 97 = .ok (.aload_n 0, 1) := by decide +kernel
theorem dX12_stone_98 : decode cX12_stone 98 = .ok (.iconst 0, 1) := by decide +kernel
theorem dX12_stone_99 : decode cX12_stone 99 = .ok (.putfield 105, 3) := by decide +kernel
theorem dX12_stone_102 : decode cX12_stone 102 = .ok (.aload_n 0, 1) := by decide +kernel
theorem dX12_stone_103 : decode cX12_stone 103 = .ok (.invokevirtual 147, 3) := by decide +kernel
theorem dX12_stone_106 : decode cX12_stone 106 = .ok (.ifCond .ne 11, 3) := by decide +kernel
theorem dX12_stone_109 : decode cX12_stone 109 = .ok (.bipush (-2), 2) := by decide +kernel
theorem dX12_stone_111 : decode cX12_stone 111 = .ok (.aload_n 0, 1) := by decide +kernel
theorem dX12_stone_112 : decode cX12_stone 112 = .ok (.getfield 116, 3) := by decide +kernel
theorem dX12_stone_115 : decode cX12_stone 115 = .ok (.isub, 1) := by decide +kernel
theorem dX12_stone_116 : decode cX12_stone 116 = .ok (.ireturn, 1) := by decide +kernel
theorem dX12_stone_117 : decode cX12_stone 117 = .ok (.aload_n 0, 1) := by decide +kernel
theorem dX12_stone_118 : decode cX12_stone 118 = .ok (.dup, 1) := by decide +kernel
theorem dX12_stone_119 : decode cX12_stone 119 = .ok (.getfield 165, 3) := by decide +kernel
theorem dX12_stone_122 : decode cX12_stone 122 = .ok (.iconst 1, 1) := by decide +kernel
theorem dX12_stone_123 : decode cX12_stone 123 = .ok (.iadd, 1) := by decide +kernel
theorem dX12_stone_124 : decode cX12_stone 124 = .ok (.putfield 165, 3) := by decide +kernel
theorem dX12_stone_127 : decode cX12_stone 127 = .ok (.aload_n 0, 1) := by decide +kernel
theorem dX12_stone_128 : decode cX12_stone 128 = .ok (.iconst 0, 1) := by decide +kernel
theorem dX12_stone_129 : decode cX12_stone 129 = .ok (.putfield 181, 3) := by decide +kernel
theorem dX12_stone_132 : decode cX12_stone 132 = .ok (.aload_n 0, 1) := by decide +kernel
theorem dX12_stone_133 : decode cX12_stone 133 = .ok (.iconst 0, 1) := by decide +kernel
theorem dX12_stone_134 : decode cX12_stone 134 = .ok (.putfield 184, 3) := by decide +kernel
theorem dX12_stone_137 : decode cX12_stone 137 = .ok (.aload_n 0, 1) := by decide +kernel
theorem dX12_stone_138 : decode cX12_stone 138 = .ok (.getfield 165, 3) := by decide +kernel
theorem dX12_stone_141 : decode cX12_stone 141 = .ok (.iconst 1, 1) := by decide +kernel
theorem dX12_stone_142 : decode cX12_stone 142 = .ok (.isub, 1) := by decide +kernel
theorem dX12_stone_143 : decode cX12_stone 143 = .ok (.ireturn, 1) := by decide +kernel
noncomputable def f_X12_stone_56_L27 (M : ZMem) (v0 : Int32) : Option ((ZMem × Int32) ⊕ (ZMem)) := zbind (f_X12_truth M v0) (fun r_63 => zbnd (zstI M 0 2 ((M.1 0 2) + r_63)) (fun M_67 => some (.inl (M_67, v0))))
set_option maxRecDepth 100000 in
set_option maxHeartbeats 4000000 in
theorem w_X12_stone_56_L27 {E : ZEv} {G : ZG} {K : (ZMem × Int32) → Prop} (h : zRu lyR E G (zRm K) cX12_stone RX12 2 (some .int) 4) (M : ZMem) (v0 : Int32) (hk : zOk (f_X12_stone_56_L27 M v0) (zlp (fun s => G s.1 27 [(0, zrf E 0), (1, .int s.2)] []) (fun e => G e 73 [(0, zrf E 0)] []))) : G M 56 [(0, zrf E 0)] [.int v0] := by
  unfold f_X12_stone_56_L27 at hk
  refine zr_istore_n (L' := [(0, zrf E 0), (1, .int v0)]) h [1, 0] dX12_stone_56 rfl (by decide) rfl ?_
  refine zr_aload_n h dX12_stone_57 0 rfl rfl ?_
  refine zr_dup h dX12_stone_58 rfl ?_
  refine zr_getI h zfo_X12_113 lR_0 rfl dX12_stone_59 ?_
  refine zr_iload_n h dX12_stone_62 1 rfl rfl ?_
  refine zr_callSp h zcw_X12_177 (by decide) (c_X12_truth E M v0 _ (zOk_bind hk)) rfl rfl (Nat.le_of_ble_eq_true rfl) dX12_stone_63 (fun r_63 hk => ?_)
  refine zr_iadd h dX12_stone_66 ?_
  refine zr_putI h zfp_X12_113 lR_0 rfl dX12_stone_67 ?_
  refine zr_mem (fun M_67 eM => ?_)
  have hk := zOk_bnd eM hk
  refine zr_goto (tgt := 27) h dX12_stone_70 (by decide) ?_
  have hk := zOk_some hk
  exact zr_weak h [0, 1] rfl hk
noncomputable def f_X12_stone_55_L27 (M : ZMem) : Option ((ZMem × Int32) ⊕ (ZMem)) := f_X12_stone_56_L27 M (zI 0)
set_option maxRecDepth 100000 in
set_option maxHeartbeats 4000000 in
theorem w_X12_stone_55_L27 {E : ZEv} {G : ZG} {K : (ZMem × Int32) → Prop} (h : zRu lyR E G (zRm K) cX12_stone RX12 2 (some .int) 4) (M : ZMem) (hk : zOk (f_X12_stone_55_L27 M) (zlp (fun s => G s.1 27 [(0, zrf E 0), (1, .int s.2)] []) (fun e => G e 73 [(0, zrf E 0)] []))) : G M 55 [(0, zrf E 0)] [] := by
  unfold f_X12_stone_55_L27 at hk
  refine zr_iconst (v := (zI 0)) h dX12_stone_55 rfl ?_
  exact w_X12_stone_56_L27 h M (zI 0) hk
noncomputable def f_X12_stone_L27 (s : (ZMem × Int32)) : Option ((ZMem × Int32) ⊕ (ZMem)) := if s.2 = (zI 0) then some (.inr s.1) else zbind (f_X12_readsRow s.1) (fun M_32 => zbind (f_X12_isRight M_32) (fun r_36 => if r_36 = (zI 0) then f_X12_stone_55_L27 M_32 else zbind (f_X12_sign M_32) (fun r_43 => if r_43 = (zI 47) then f_X12_stone_56_L27 M_32 (zI 1) else f_X12_stone_55_L27 M_32)))
set_option maxRecDepth 100000 in
set_option maxHeartbeats 4000000 in
theorem w_X12_stone_L27 {E : ZEv} {G : ZG} {K : (ZMem × Int32) → Prop} (h : zRu lyR E G (zRm K) cX12_stone RX12 2 (some .int) 4) (s : (ZMem × Int32)) (hk : zOk (zloop (f_X12_stone_L27) s) (fun e => G e 73 [(0, zrf E 0)] [])) : G s.1 27 [(0, zrf E 0), (1, .int s.2)] [] := by
  refine zloop_walk (P := fun s => G s.1 27 [(0, zrf E 0), (1, .int s.2)] []) hk (fun s hk => ?_)
  unfold f_X12_stone_L27 at hk
  refine zr_iload_n h dX12_stone_27 1 rfl rfl ?_
  refine zr_if_eq (tgt := 73) h dX12_stone_28 (by decide) (fun c => ?_) (fun c => ?_)
  · have hk := zOk_t c hk
    have hk := zOk_some hk
    exact zr_weak h [0] rfl hk
  · have hk := zOk_f c hk
    refine zr_aload_n h dX12_stone_31 0 rfl rfl ?_
    refine zr_callVv h lR_0 zcw_X12_174 (by decide) (c_X12_readsRow E s.1 _ (zOk_bind hk)) rfl rfl (Nat.le_of_ble_eq_true rfl) dX12_stone_32 (fun M_32 hk => ?_)
    refine zr_aload_n h dX12_stone_35 0 rfl rfl ?_
    refine zr_callVp h lR_0 zcw_X12_147 (by decide) (c_X12_isRight E M_32 _ (zOk_bind hk)) rfl rfl (Nat.le_of_ble_eq_true rfl) dX12_stone_36 (fun r_36 hk => ?_)
    refine zr_if_eq (tgt := 55) h dX12_stone_39 (by decide) (fun c => ?_) (fun c => ?_)
    · have hk := zOk_t c hk
      exact zr_weak h [0] rfl (w_X12_stone_55_L27 h M_32 hk)
    · have hk := zOk_f c hk
      refine zr_aload_n h dX12_stone_42 0 rfl rfl ?_
      refine zr_callVp h lR_0 zcw_X12_119 (by decide) (c_X12_sign E M_32 _ (zOk_bind hk)) rfl rfl (Nat.le_of_ble_eq_true rfl) dX12_stone_43 (fun r_43 hk => ?_)
      refine zr_bipush (v := (zI 47)) h dX12_stone_46 (by decide) ?_
      refine zr_icmp_ne (tgt := 55) h dX12_stone_48 (by decide) (fun c => ?_) (fun c => ?_)
      · have hk := zOk_t c hk
        refine zr_iconst (v := (zI 1)) h dX12_stone_51 rfl ?_
        refine zr_goto (tgt := 56) h dX12_stone_52 (by decide) ?_
        exact zr_weak h [0] rfl (w_X12_stone_56_L27 h M_32 (zI 1) hk)
      · have hk := zOk_f c hk
        exact zr_weak h [0] rfl (w_X12_stone_55_L27 h M_32 hk)
noncomputable def f_X12_stone_97 (M : ZMem) : Option (ZMem × Int32) := zbnd (zstI M 0 1 (zI 0)) (fun M_99 => zbind (f_X12_isRight M_99) (fun r_103 => if r_103 = (zI 0) then some (M_99, ((zI (-2)) - (M_99.1 0 3))) else zbnd (zstI M_99 0 8 ((M_99.1 0 8) + (zI 1))) (fun M_124 => zbnd (zstI M_124 0 17 (zI 0)) (fun M_129 => zbnd (zstI M_129 0 45 (zI 0)) (fun M_134 => some (M_134, ((M_134.1 0 8) - (zI 1))))))))
set_option maxRecDepth 100000 in
set_option maxHeartbeats 4000000 in
theorem w_X12_stone_97 {E : ZEv} {G : ZG} {K : (ZMem × Int32) → Prop} (h : zRu lyR E G (zRm K) cX12_stone RX12 2 (some .int) 4) (M : ZMem) (hk : zOk (f_X12_stone_97 M) K) : G M 97 [(0, zrf E 0)] [] := by
  unfold f_X12_stone_97 at hk
  refine zr_aload_n h dX12_stone_97 0 rfl rfl ?_
  refine zr_iconst (v := (zI 0)) h dX12_stone_98 rfl ?_
  refine zr_putI h zfp_X12_105 lR_0 rfl dX12_stone_99 ?_
  refine zr_mem (fun M_99 eM => ?_)
  have hk := zOk_bnd eM hk
  refine zr_aload_n h dX12_stone_102 0 rfl rfl ?_
  refine zr_callVp h lR_0 zcw_X12_147 (by decide) (c_X12_isRight E M_99 _ (zOk_bind hk)) rfl rfl (Nat.le_of_ble_eq_true rfl) dX12_stone_103 (fun r_103 hk => ?_)
  refine zr_if_ne (tgt := 117) h dX12_stone_106 (by decide) (fun c => ?_) (fun c => ?_)
  · have hk := zOk_t c hk
    refine zr_bipush (v := (zI (-2))) h dX12_stone_109 (by decide) ?_
    refine zr_aload_n h dX12_stone_111 0 rfl rfl ?_
    refine zr_getI h zfo_X12_116 lR_0 rfl dX12_stone_112 ?_
    refine zr_isub h dX12_stone_115 ?_
    have hk := zOk_some hk
    exact zr_iret h dX12_stone_116 ⟨_, rfl, hk⟩
  · have hk := zOk_f c hk
    refine zr_aload_n h dX12_stone_117 0 rfl rfl ?_
    refine zr_dup h dX12_stone_118 rfl ?_
    refine zr_getI h zfo_X12_165 lR_0 rfl dX12_stone_119 ?_
    refine zr_iconst (v := (zI 1)) h dX12_stone_122 rfl ?_
    refine zr_iadd h dX12_stone_123 ?_
    refine zr_putI h zfp_X12_165 lR_0 rfl dX12_stone_124 ?_
    refine zr_mem (fun M_124 eM => ?_)
    have hk := zOk_bnd eM hk
    refine zr_aload_n h dX12_stone_127 0 rfl rfl ?_
    refine zr_iconst (v := (zI 0)) h dX12_stone_128 rfl ?_
    refine zr_putI h zfp_X12_181 lR_0 rfl dX12_stone_129 ?_
    refine zr_mem (fun M_129 eM => ?_)
    have hk := zOk_bnd eM hk
    refine zr_aload_n h dX12_stone_132 0 rfl rfl ?_
    refine zr_iconst (v := (zI 0)) h dX12_stone_133 rfl ?_
    refine zr_putZ h zfp_X12_184 lR_0 rfl (by decide) dX12_stone_134 ?_
    refine zr_mem (fun M_134 eM => ?_)
    have hk := zOk_bnd eM hk
    refine zr_aload_n h dX12_stone_137 0 rfl rfl ?_
    refine zr_getI h zfo_X12_165 lR_0 rfl dX12_stone_138 ?_
    refine zr_iconst (v := (zI 1)) h dX12_stone_141 rfl ?_
    refine zr_isub h dX12_stone_142 ?_
    have hk := zOk_some hk
    exact zr_iret h dX12_stone_143 ⟨_, rfl, hk⟩
noncomputable def f_X12_stone (M : ZMem) : Option (ZMem × Int32) := if (M.1 0 8) = (zI 6) then some (M, (zI (-1))) else zbind (f_X12_starts M) (fun M_12 => zchk (zin (M_12.1 0 8) 7) (zbnd (zstI M_12 4 (zix (M_12.1 0 8)) (zI 0)) (fun M_24 => zbind (zloop (f_X12_stone_L27) (M_24, (zI 1))) (fun e27 => zbind (f_X12_isRight e27) (fun r_74 => if r_74 = (zI 0) then f_X12_stone_97 e27 else zbind (f_X12_sign e27) (fun r_81 => if r_81 = (zI (-1)) then f_X12_stone_97 e27 else zbind (f_X12_fails e27 (zI 1) (e27.1 0 2)) (fun M_94 => f_X12_stone_97 M_94)))))))
set_option maxRecDepth 100000 in
set_option maxHeartbeats 4000000 in
theorem c_X12_stone (E : ZEv) (M : ZMem) (K : ZMem × Int32 → Prop) (hk : zOk (f_X12_stone M) K) : zCon lyR E yX12_stone cX12_stone 2 (some .int) 4 [zrf E 0] M (zRm K) := by
  refine zcon_of (L0 := [(0, zrf E 0)]) (by decide) rfl (Nat.le_of_ble_eq_true rfl) (fun G h => ?_)
  have h : zRu lyR E G (zRm K) cX12_stone RX12 2 (some .int) 4 := h
  unfold f_X12_stone at hk
  refine zr_aload_n h dX12_stone_0 0 rfl rfl ?_
  refine zr_getI h zfo_X12_165 lR_0 rfl dX12_stone_1 ?_
  refine zr_bipush (v := (zI 6)) h dX12_stone_4 (by decide) ?_
  refine zr_icmp_ne (tgt := 11) h dX12_stone_6 (by decide) (fun c => ?_) (fun c => ?_)
  · have hk := zOk_t c hk
    refine zr_iconst (v := (zI (-1))) h dX12_stone_9 rfl ?_
    have hk := zOk_some hk
    exact zr_iret h dX12_stone_10 ⟨_, rfl, hk⟩
  · have hk := zOk_f c hk
    refine zr_aload_n h dX12_stone_11 0 rfl rfl ?_
    refine zr_callVv h lR_0 zcw_X12_156 (by decide) (c_X12_starts E M _ (zOk_bind hk)) rfl rfl (Nat.le_of_ble_eq_true rfl) dX12_stone_12 (fun M_12 hk => ?_)
    refine zr_aload_n h dX12_stone_15 0 rfl rfl ?_
    refine zr_getR h zfo_X12_20 lR_0 rfl dX12_stone_16 ?_
    refine zr_aload_n h dX12_stone_19 0 rfl rfl ?_
    refine zr_getI h zfo_X12_165 lR_0 rfl dX12_stone_20 ?_
    refine zr_iconst (v := (zI 0)) h dX12_stone_23 rfl ?_
    have hb := zOk_chk hk
    have hk := hb.2
    refine zr_iast h lR_4 hb.1 dX12_stone_24 ?_
    refine zr_mem (fun M_24 eM => ?_)
    have hk := zOk_bnd eM hk
    refine zr_iconst (v := (zI 1)) h dX12_stone_25 rfl ?_
    refine zr_istore_n (L' := [(0, zrf E 0), (1, .int (zI 1))]) h [1, 0] dX12_stone_26 rfl (by decide) rfl ?_
    refine w_X12_stone_L27 h (M_24, (zI 1)) (zOk_mono (zOk_bind hk) (fun e27 hk => ?_))
    refine zr_aload_n h dX12_stone_73 0 rfl rfl ?_
    refine zr_callVp h lR_0 zcw_X12_147 (by decide) (c_X12_isRight E e27 _ (zOk_bind hk)) rfl rfl (Nat.le_of_ble_eq_true rfl) dX12_stone_74 (fun r_74 hk => ?_)
    refine zr_if_eq (tgt := 97) h dX12_stone_77 (by decide) (fun c => ?_) (fun c => ?_)
    · have hk := zOk_t c hk
      exact w_X12_stone_97 h e27 hk
    · have hk := zOk_f c hk
      refine zr_aload_n h dX12_stone_80 0 rfl rfl ?_
      refine zr_callVp h lR_0 zcw_X12_119 (by decide) (c_X12_sign E e27 _ (zOk_bind hk)) rfl rfl (Nat.le_of_ble_eq_true rfl) dX12_stone_81 (fun r_81 hk => ?_)
      refine zr_iconst (v := (zI (-1))) h dX12_stone_84 rfl ?_
      refine zr_icmp_eq (tgt := 97) h dX12_stone_85 (by decide) (fun c => ?_) (fun c => ?_)
      · have hk := zOk_t c hk
        exact w_X12_stone_97 h e27 hk
      · have hk := zOk_f c hk
        refine zr_aload_n h dX12_stone_88 0 rfl rfl ?_
        refine zr_iconst (v := (zI 1)) h dX12_stone_89 rfl ?_
        refine zr_aload_n h dX12_stone_90 0 rfl rfl ?_
        refine zr_getI h zfo_X12_113 lR_0 rfl dX12_stone_91 ?_
        refine zr_callVv h lR_0 zcw_X12_134 (by decide) (c_X12_fails E e27 (zI 1) (e27.1 0 2) _ (zOk_bind hk)) rfl rfl (Nat.le_of_ble_eq_true rfl) dX12_stone_94 (fun M_94 hk => ?_)
        exact w_X12_stone_97 h M_94 hk
theorem dX12_oneOf_0 : decode cX12_oneOf 0 = .ok (.iconst 0, 1) := by decide +kernel
theorem dX12_oneOf_1 : decode cX12_oneOf 1 = .ok (.istore_n 2, 1) := by decide +kernel
theorem dX12_oneOf_2 : decode cX12_oneOf 2 = .ok (.iload_n 2, 1) := by decide +kernel
theorem dX12_oneOf_3 : decode cX12_oneOf 3 = .ok (.aload_n 1, 1) := by decide +kernel
theorem dX12_oneOf_4 : decode cX12_oneOf 4 = .ok (.invokevirtual 188, 3) := by decide +kernel
theorem dX12_oneOf_7 : decode cX12_oneOf 7 = .ok (.if_icmp .ge 23, 3) := by decide +kernel
theorem dX12_oneOf_10 : decode cX12_oneOf 10 = .ok (.aload_n 0, 1) := by decide +kernel
theorem dX12_oneOf_11 : decode cX12_oneOf 11 = .ok (.invokevirtual 119, 3) := by decide +kernel
theorem dX12_oneOf_14 : decode cX12_oneOf 14 = .ok (.aload_n 1, 1) := by decide +kernel
theorem dX12_oneOf_15 : decode cX12_oneOf 15 = .ok (.iload_n 2, 1) := by decide +kernel
theorem dX12_oneOf_16 : decode cX12_oneOf 16 = .ok (.invokevirtual 193, 3) := by decide +kernel
theorem dX12_oneOf_19 : decode cX12_oneOf 19 = .ok (.if_icmp .ne 5, 3) := by decide +kernel
theorem dX12_oneOf_22 : decode cX12_oneOf 22 = .ok (.iload_n 2, 1) := by decide +kernel
theorem dX12_oneOf_23 : decode cX12_oneOf 23 = .ok (.ireturn, 1) := by decide +kernel
theorem dX12_oneOf_24 : decode cX12_oneOf 24 = .ok (.iinc 2 1, 3) := by decide +kernel
theorem dX12_oneOf_27 : decode cX12_oneOf 27 = .ok (.goto (-25), 3) := by decide +kernel
theorem dX12_oneOf_30 : decode cX12_oneOf 30 = .ok (.aload_n 0, 1) := by decide +kernel
theorem dX12_oneOf_31 : decode cX12_oneOf 31 = .ok (.iconst 1, 1) := by decide +kernel
theorem dX12_oneOf_32 : decode cX12_oneOf 32 = .ok (.aload_n 0, 1) := by decide +kernel
theorem dX12_oneOf_33 : decode cX12_oneOf 33 = .ok (.getfield 113, 3) := by decide +kernel
theorem dX12_oneOf_36 : decode cX12_oneOf 36 = .ok (.invokevirtual 134, 3) := by decide +kernel
theorem dX12_oneOf_39 : decode cX12_oneOf 39 = .ok (.iconst 0, 1) := by decide +kernel
theorem dX12_oneOf_40 : decode cX12_oneOf 40 = .ok (.ireturn, 1) := by decide +kernel
noncomputable def f_X12_oneOf_L2 (w : Nat) (M : ZMem) (s : (Int32)) : Option ((Int32) ⊕ ((Unit) ⊕ (ZMem × Int32))) := zbind (f_J0_length_8abf5 w M) (fun r_4 => if r_4 ≤ s then some (.inr (.inl ())) else zbind (f_X12_sign M) (fun r_11 => zbind (f_J0_charAt_5068e w M s) (fun r_16 => if r_11 = r_16 then some (.inr (.inr (M, s))) else zbnd (s + (zI 1)) (fun x2_24 => some (.inl x2_24)))))
set_option maxRecDepth 100000 in
set_option maxHeartbeats 4000000 in
theorem w_X12_oneOf_L2 {E : ZEv} {G : ZG} {K : (ZMem × Int32) → Prop} (h : zRu lyR E G (zRm K) cX12_oneOf RX12 3 (some .int) 4) (w : Nat) (hw : w < 2) (M : ZMem) (s : (Int32)) (hk : zOk (zloop (f_X12_oneOf_L2 w M) s) (fun e => zsel e (fun e0 => G M 30 [(0, zrf E 0)] []) (fun f0 => K f0))) : G M 2 [(0, zrf E 0), (1, zrf E (1000 + w)), (2, .int s)] [] := by
  refine zloop_walk (P := fun s => G M 2 [(0, zrf E 0), (1, zrf E (1000 + w)), (2, .int s)] []) hk (fun s hk => ?_)
  unfold f_X12_oneOf_L2 at hk
  refine zr_iload_n h dX12_oneOf_2 2 rfl rfl ?_
  refine zr_aload_n h dX12_oneOf_3 1 rfl rfl ?_
  refine zr_callT (w := w) h hw (List.forall_mem_cons.mpr ⟨(zm_24 _ (List.mem_of_getElem? (i := 6) rfl)), (List.forall_mem_cons.mpr ⟨(zm_20 _ (List.mem_of_getElem? (i := 22) rfl)), (List.forall_mem_cons.mpr ⟨(zm_20 _ (List.mem_of_getElem? (i := 23) rfl)), (List.forall_mem_cons.mpr ⟨(zm_20 _ (List.mem_of_getElem? (i := 8) rfl)), (List.forall_mem_cons.mpr ⟨(zm_21 _ (List.mem_of_getElem? (i := 0) rfl)), (fun _ h => absurd h List.not_mem_nil)⟩)⟩)⟩)⟩)⟩) ⟨rfl, by decide, by decide, (by decide +kernel : (parseMethodDescriptor yJ0_length_8abf5.desc).map (fun d => d.parameters.length) = some 0)⟩ (by decide) (by decide) (c_J0_length_8abf5 E w hw M _ (zOk_bind hk)) rfl rfl (Nat.le_of_ble_eq_true rfl) dX12_oneOf_4 (fun r_4 hk => ?_)
  refine zr_icmp_ge (tgt := 30) h dX12_oneOf_7 (by decide) (fun c => ?_) (fun c => ?_)
  · have hk := zOk_t c hk
    have hk := zOk_some hk
    exact zr_weak h [0] rfl hk
  · have hk := zOk_f c hk
    refine zr_aload_n h dX12_oneOf_10 0 rfl rfl ?_
    refine zr_callVp h lR_0 zcw_X12_119 (by decide) (c_X12_sign E M _ (zOk_bind hk)) rfl rfl (Nat.le_of_ble_eq_true rfl) dX12_oneOf_11 (fun r_11 hk => ?_)
    refine zr_aload_n h dX12_oneOf_14 1 rfl rfl ?_
    refine zr_iload_n h dX12_oneOf_15 2 rfl rfl ?_
    refine zr_callT (w := w) h hw (List.forall_mem_cons.mpr ⟨(zm_24 _ (List.mem_of_getElem? (i := 7) rfl)), (List.forall_mem_cons.mpr ⟨(zm_24 _ (List.mem_of_getElem? (i := 8) rfl)), (List.forall_mem_cons.mpr ⟨(zm_24 _ (List.mem_of_getElem? (i := 9) rfl)), (List.forall_mem_cons.mpr ⟨(zm_20 _ (List.mem_of_getElem? (i := 8) rfl)), (List.forall_mem_cons.mpr ⟨(zm_24 _ (List.mem_of_getElem? (i := 10) rfl)), (fun _ h => absurd h List.not_mem_nil)⟩)⟩)⟩)⟩)⟩) ⟨rfl, by decide, by decide, (by decide +kernel : (parseMethodDescriptor yJ0_charAt_5068e.desc).map (fun d => d.parameters.length) = some 1)⟩ (by decide) (by decide) (c_J0_charAt_5068e E w hw M s _ (zOk_bind hk)) rfl rfl (Nat.le_of_ble_eq_true rfl) dX12_oneOf_16 (fun r_16 hk => ?_)
    refine zr_icmp_ne (tgt := 24) h dX12_oneOf_19 (by decide) (fun c => ?_) (fun c => ?_)
    · have hk := zOk_t c hk
      refine zr_iload_n h dX12_oneOf_22 2 rfl rfl ?_
      have hk := zOk_some hk
      exact zr_iret h dX12_oneOf_23 ⟨_, rfl, hk⟩
    · have hk := zOk_f c hk
      obtain ⟨x2_24, ex⟩ : ∃ y : Int32, y = s + (zI 1) := ⟨_, rfl⟩
      have hk := zOk_bnd ex hk
      refine zr_iinc (v := x2_24) (L' := [(0, zrf E 0), (1, zrf E (1000 + w)), (2, .int x2_24)]) h 2 [1, 2, 0] dX12_oneOf_24 rfl (by rw [ex]; rfl) (by decide) rfl ?_
      refine zr_goto (tgt := 2) h dX12_oneOf_27 (by decide) ?_
      have hk := zOk_some hk
      exact zr_weak h [0, 1, 2] rfl hk
noncomputable def f_X12_oneOf (w : Nat) (M : ZMem) : Option (ZMem × Int32) := zbind (zloop (f_X12_oneOf_L2 w M) (zI 0)) (fun e2 => zsel e2 (fun e2a => zbind (f_X12_fails M (zI 1) (M.1 0 2)) (fun M_36 => some (M_36, (zI 0)))) (fun e2b => some e2b))
set_option maxRecDepth 100000 in
set_option maxHeartbeats 4000000 in
theorem c_X12_oneOf (E : ZEv) (w : Nat) (hw : w < 2) (M : ZMem) (K : ZMem × Int32 → Prop) (hk : zOk (f_X12_oneOf w M) K) : zCon lyR E yX12_oneOf cX12_oneOf 3 (some .int) 4 [zrf E 0, zrf E (1000 + w)] M (zRm K) := by
  refine zcon_of (L0 := [(0, zrf E 0), (1, zrf E (1000 + w))]) (by decide) rfl (Nat.le_of_ble_eq_true rfl) (fun G h => ?_)
  have h : zRu lyR E G (zRm K) cX12_oneOf RX12 3 (some .int) 4 := h
  unfold f_X12_oneOf at hk
  refine zr_iconst (v := (zI 0)) h dX12_oneOf_0 rfl ?_
  refine zr_istore_n (L' := [(0, zrf E 0), (1, zrf E (1000 + w)), (2, .int (zI 0))]) h [1, 2, 0] dX12_oneOf_1 rfl (by decide) rfl ?_
  refine w_X12_oneOf_L2 h w hw M (zI 0) (zOk_mono (zOk_bind hk) (fun e2 hk => ?_))
  cases e2 with
  | inl e2a =>
    have hk := zOk_selL hk
    refine zr_aload_n h dX12_oneOf_30 0 rfl rfl ?_
    refine zr_iconst (v := (zI 1)) h dX12_oneOf_31 rfl ?_
    refine zr_aload_n h dX12_oneOf_32 0 rfl rfl ?_
    refine zr_getI h zfo_X12_113 lR_0 rfl dX12_oneOf_33 ?_
    refine zr_callVv h lR_0 zcw_X12_134 (by decide) (c_X12_fails E M (zI 1) (M.1 0 2) _ (zOk_bind hk)) rfl rfl (Nat.le_of_ble_eq_true rfl) dX12_oneOf_36 (fun M_36 hk => ?_)
    refine zr_iconst (v := (zI 0)) h dX12_oneOf_39 rfl ?_
    have hk := zOk_some hk
    exact zr_iret h dX12_oneOf_40 ⟨_, rfl, hk⟩
  | inr e2b =>
    have hk := zOk_selR hk
    have hk := zOk_some hk
    exact hk
theorem dX12_readsSyllable_0 : decode cX12_readsSyllable 0 = .ok (.aload_n 0, 1) := by decide +kernel
theorem dX12_readsSyllable_1 : decode cX12_readsSyllable 1 = .ok (.ldc 197, 2) := by decide +kernel
theorem dX12_readsSyllable_3 : decode cX12_readsSyllable 3 = .ok (.invokevirtual 199, 3) := by decide +kernel
theorem dX12_readsSyllable_6 : decode cX12_readsSyllable 6 = .ok (.istore_n 1, 1) := by decide +kernel
theorem dX12_readsSyllable_7 : decode cX12_readsSyllable 7 = .ok (.aload_n 0, 1) := by decide +kernel
theorem dX12_readsSyllable_8 : decode cX12_readsSyllable 8 = .ok (.invokevirtual 147, 3) := by decide +kernel
theorem dX12_readsSyllable_11 : decode cX12_readsSyllable 11 = .ok (.ifCond .eq 26, 3) := by decide +kernel
theorem dX12_readsSyllable_14 : decode cX12_readsSyllable 14 = .ok (.aload_n 0, 1) := by decide +kernel
theorem dX12_readsSyllable_15 : decode cX12_readsSyllable 15 = .ok (.getfield 29, 3) := by decide +kernel
theorem dX12_readsSyllable_18 : decode cX12_readsSyllable 18 = .ok (.aload_n 0, 1) := by decide +kernel
theorem dX12_readsSyllable_19 : decode cX12_readsSyllable 19 = .ok (.getfield 203, 3) := by decide +kernel
theorem dX12_readsSyllable_22 : decode cX12_readsSyllable 22 = .ok (.iaload, 1) := by decide +kernel
theorem dX12_readsSyllable_23 : decode cX12_readsSyllable 23 = .ok (.bipush 7, 2) := by decide +kernel
theorem dX12_readsSyllable_25 : decode cX12_readsSyllable 25 = .ok (.if_icmp .ne 12, 3) := by decide +kernel
theorem dX12_readsSyllable_28 : decode cX12_readsSyllable 28 = .ok (.aload_n 0, 1) := by decide +kernel
theorem dX12_readsSyllable_29 : decode cX12_readsSyllable 29 = .ok (.iconst 2, 1) := by decide +kernel
theorem dX12_readsSyllable_30 : decode cX12_readsSyllable 30 = .ok (.aload_n 0, 1) := by decide +kernel
theorem dX12_readsSyllable_31 : decode cX12_readsSyllable 31 = .ok (.getfield 113, 3) := by decide +kernel
theorem dX12_readsSyllable_34 : decode cX12_readsSyllable 34 = .ok (.invokevirtual 134, 3) := by decide +kernel
theorem dX12_readsSyllable_37 : decode cX12_readsSyllable 37 = .ok (.aload_n 0, 1) := by decide +kernel
theorem dX12_readsSyllable_38 : decode cX12_readsSyllable 38 = .ok (.dup, 1) := by decide +kernel
theorem dX12_readsSyllable_39 : decode cX12_readsSyllable 39 = .ok (.getfield 113, 3) := by decide +kernel
theorem dX12_readsSyllable_42 : decode cX12_readsSyllable 42 = .ok (.iconst 1, 1) := by decide +kernel
theorem dX12_readsSyllable_43 : decode cX12_readsSyllable 43 = .ok (.iadd, 1) := by decide +kernel
theorem dX12_readsSyllable_44 : decode cX12_readsSyllable 44 = .ok (.putfield 113, 3) := by decide +kernel
theorem dX12_readsSyllable_47 : decode cX12_readsSyllable 47 = .ok (.aload_n 0, 1) := by decide +kernel
theorem dX12_readsSyllable_48 : decode cX12_readsSyllable 48 = .ok (.invokevirtual 147, 3) := by decide +kernel
theorem dX12_readsSyllable_51 : decode cX12_readsSyllable 51 = .ok (.ifCond .eq 12, 3) := by decide +kernel
theorem dX12_readsSyllable_54 : decode cX12_readsSyllable 54 = .ok (.aload_n 0, 1) := by decide +kernel
theorem dX12_readsSyllable_55 : decode cX12_readsSyllable 55 = .ok (.ldc 206, 2) := by decide +kernel
theorem dX12_readsSyllable_57 : decode cX12_readsSyllable 57 = .ok (.invokevirtual 199, 3) := by decide +kernel
theorem dX12_readsSyllable_60 : decode cX12_readsSyllable 60 = .ok (.goto 4, 3) := by decide +kernel
theorem dX12_readsSyllable_63 : decode cX12_readsSyllable 63 = .ok (.iconst 0, 1) := by decide +kernel
theorem dX12_readsSyllable_64 : decode cX12_readsSyllable 64 = .ok (.istore_n 2, 1) := by decide +kernel
theorem dX12_readsSyllable_65 : decode cX12_readsSyllable 65 = .ok (.aload_n 0, 1) := by decide +kernel
theorem dX12_readsSyllable_66 : decode cX12_readsSyllable 66 = .ok (.dup, 1) := by decide +kernel
theorem dX12_readsSyllable_67 : decode cX12_readsSyllable 67 = .ok (.getfield 113, 3) := by decide +kernel
theorem dX12_readsSyllable_70 : decode cX12_readsSyllable 70 = .ok (.iconst 1, 1) := by decide +kernel
theorem dX12_readsSyllable_71 : decode cX12_readsSyllable 71 = .ok (.iadd, 1) := by decide +kernel
theorem dX12_readsSyllable_72 : decode cX12_readsSyllable 72 = .ok (.putfield 113, 3) := by decide +kernel
theorem dX12_readsSyllable_75 : decode cX12_readsSyllable 75 = .ok (.aload_n 0, 1) := by decide +kernel
theorem dX12_readsSyllable_76 : decode cX12_readsSyllable 76 = .ok (.invokevirtual 147, 3) := by decide +kernel
theorem dX12_readsSyllable_79 : decode cX12_readsSyllable 79 = .ok (.ifCond .eq 43, 3) := by decide +kernel
theorem dX12_readsSyllable_82 : decode cX12_readsSyllable 82 = .ok (.aload_n 0, 1) := by decide +kernel
theorem dX12_readsSyllable_83 : decode cX12_readsSyllable 83 = .ok (.getfield 32, 3) := by decide +kernel
theorem dX12_readsSyllable_86 : decode cX12_readsSyllable 86 = .ok (.bipush 7, 2) := by decide +kernel
theorem dX12_readsSyllable_88 : decode cX12_readsSyllable 88 = .ok (.aload_n 0, 1) := by decide +kernel
theorem dX12_readsSyllable_89 : decode cX12_readsSyllable 89 = .ok (.getfield 203, 3) := by decide +kernel
theorem dX12_readsSyllable_92 : decode cX12_readsSyllable 92 = .ok (.imul, 1) := by decide +kernel
theorem dX12_readsSyllable_93 : decode cX12_readsSyllable 93 = .ok (.aload_n 0, 1) := by decide +kernel
theorem dX12_readsSyllable_94 : decode cX12_readsSyllable 94 = .ok (.getfield 29, 3) := by decide +kernel
theorem dX12_readsSyllable_97 : decode cX12_readsSyllable 97 = .ok (.aload_n 0, 1) := by decide +kernel
theorem dX12_readsSyllable_98 : decode cX12_readsSyllable 98 = .ok (.getfield 203, 3) := by decide +kernel
theorem dX12_readsSyllable_101 : decode cX12_readsSyllable 101 = .ok (.iaload, 1) := by decide +kernel
theorem dX12_readsSyllable_102 : decode cX12_readsSyllable 102 = .ok (.iadd, 1) := by decide +kernel
theorem dX12_readsSyllable_103 : decode cX12_readsSyllable 103 = .ok (.iconst 5, 1) := by decide +kernel
theorem dX12_readsSyllable_104 : decode cX12_readsSyllable 104 = .ok (.iload_n 1, 1) := by decide +kernel
theorem dX12_readsSyllable_105 : decode cX12_readsSyllable 105 = .ok (.imul, 1) := by decide +kernel
theorem dX12_readsSyllable_106 : decode cX12_readsSyllable 106 = .ok (.iload_n 2, 1) := by decide +kernel
theorem dX12_readsSyllable_107 : decode cX12_readsSyllable 107 = .ok (.iadd, 1) := by decide +kernel
theorem dX12_readsSyllable_108 : decode cX12_readsSyllable 108 = .ok (.iastore, 1) := by decide +kernel
theorem dX12_readsSyllable_109 : decode cX12_readsSyllable 109 = .ok (.aload_n 0, 1) := by decide +kernel
theorem dX12_readsSyllable_110 : decode cX12_readsSyllable 110 = .ok (.getfield 29, 3) := by decide +kernel
theorem dX12_readsSyllable_113 : decode cX12_readsSyllable 113 = .ok (.aload_n 0, 1) := by decide +kernel
theorem dX12_readsSyllable_114 : decode cX12_readsSyllable 114 = .ok (.getfield 203, 3) := by decide +kernel
theorem dX12_readsSyllable_117 : decode cX12_readsSyllable 117 = .ok (.dup2, 1) := by decide +kernel
theorem dX12_readsSyllable_118 : decode cX12_readsSyllable 118 = .ok (.iaload, 1) := by decide +kernel
theorem dX12_readsSyllable_119 : decode cX12_readsSyllable 119 = .ok (.iconst 1, 1) := by decide +kernel
theorem dX12_readsSyllable_120 : decode cX12_readsSyllable 120 = .ok (.iadd, 1) := by decide +kernel
theorem dX12_readsSyllable_121 : decode cX12_readsSyllable 121 = .ok (.iastore, 1) := by decide +kernel
theorem dX12_readsSyllable_122 : decode cX12_readsSyllable 122 = .ok (.return_, 1) := by decide +kernel
noncomputable def f_X12_readsSyllable_64 (M : ZMem) (x1 : Int32) (v0 : Int32) : Option ZMem := zbnd (zstI M 0 2 ((M.1 0 2) + (zI 1))) (fun M_72 => zbind (f_X12_isRight M_72) (fun r_76 => if r_76 = (zI 0) then some M_72 else zchk (zin (M_72.1 0 12) 5) (zchk (zin (((zI 7) * (M_72.1 0 12)) + (M_72.1 7 (zix (M_72.1 0 12)))) 35) (zbnd (zstI M_72 8 (zix (((zI 7) * (M_72.1 0 12)) + (M_72.1 7 (zix (M_72.1 0 12))))) (((zI 5) * x1) + v0)) (fun M_108 => zchk (zin (M_108.1 0 12) 5) (zchk (zin (M_108.1 0 12) 5) (zbnd (zstI M_108 7 (zix (M_108.1 0 12)) ((M_108.1 7 (zix (M_108.1 0 12))) + (zI 1))) (fun M_121 => some M_121))))))))
set_option maxRecDepth 100000 in
set_option maxHeartbeats 4000000 in
theorem w_X12_readsSyllable_64 {E : ZEv} {G : ZG} {K : ZMem → Prop} (h : zRu lyR E G (zRv K) cX12_readsSyllable RX12 3 none 5) (M : ZMem) (x1 : Int32) (v0 : Int32) (hk : zOk (f_X12_readsSyllable_64 M x1 v0) K) : G M 64 [(0, zrf E 0), (1, .int x1)] [.int v0] := by
  unfold f_X12_readsSyllable_64 at hk
  refine zr_istore_n (L' := [(0, zrf E 0), (1, .int x1), (2, .int v0)]) h [1, 2, 0] dX12_readsSyllable_64 rfl (by decide) rfl ?_
  refine zr_aload_n h dX12_readsSyllable_65 0 rfl rfl ?_
  refine zr_dup h dX12_readsSyllable_66 rfl ?_
  refine zr_getI h zfo_X12_113 lR_0 rfl dX12_readsSyllable_67 ?_
  refine zr_iconst (v := (zI 1)) h dX12_readsSyllable_70 rfl ?_
  refine zr_iadd h dX12_readsSyllable_71 ?_
  refine zr_putI h zfp_X12_113 lR_0 rfl dX12_readsSyllable_72 ?_
  refine zr_mem (fun M_72 eM => ?_)
  have hk := zOk_bnd eM hk
  refine zr_aload_n h dX12_readsSyllable_75 0 rfl rfl ?_
  refine zr_callVp h lR_0 zcw_X12_147 (by decide) (c_X12_isRight E M_72 _ (zOk_bind hk)) rfl rfl (Nat.le_of_ble_eq_true rfl) dX12_readsSyllable_76 (fun r_76 hk => ?_)
  refine zr_if_eq (tgt := 122) h dX12_readsSyllable_79 (by decide) (fun c => ?_) (fun c => ?_)
  · have hk := zOk_t c hk
    have hk := zOk_some hk
    exact zr_vret h dX12_readsSyllable_122 ⟨rfl, hk⟩
  · have hk := zOk_f c hk
    refine zr_aload_n h dX12_readsSyllable_82 0 rfl rfl ?_
    refine zr_getR h zfo_X12_32 lR_0 rfl dX12_readsSyllable_83 ?_
    refine zr_bipush (v := (zI 7)) h dX12_readsSyllable_86 (by decide) ?_
    refine zr_aload_n h dX12_readsSyllable_88 0 rfl rfl ?_
    refine zr_getI h zfo_X12_203 lR_0 rfl dX12_readsSyllable_89 ?_
    refine zr_imul h dX12_readsSyllable_92 ?_
    refine zr_aload_n h dX12_readsSyllable_93 0 rfl rfl ?_
    refine zr_getR h zfo_X12_29 lR_0 rfl dX12_readsSyllable_94 ?_
    refine zr_aload_n h dX12_readsSyllable_97 0 rfl rfl ?_
    refine zr_getI h zfo_X12_203 lR_0 rfl dX12_readsSyllable_98 ?_
    have hb := zOk_chk hk
    have hk := hb.2
    refine zr_iald h lR_7 hb.1 dX12_readsSyllable_101 ?_
    refine zr_iadd h dX12_readsSyllable_102 ?_
    refine zr_iconst (v := (zI 5)) h dX12_readsSyllable_103 rfl ?_
    refine zr_iload_n h dX12_readsSyllable_104 1 rfl rfl ?_
    refine zr_imul h dX12_readsSyllable_105 ?_
    refine zr_iload_n h dX12_readsSyllable_106 2 rfl rfl ?_
    refine zr_iadd h dX12_readsSyllable_107 ?_
    have hb := zOk_chk hk
    have hk := hb.2
    refine zr_iast h lR_8 hb.1 dX12_readsSyllable_108 ?_
    refine zr_mem (fun M_108 eM => ?_)
    have hk := zOk_bnd eM hk
    refine zr_aload_n h dX12_readsSyllable_109 0 rfl rfl ?_
    refine zr_getR h zfo_X12_29 lR_0 rfl dX12_readsSyllable_110 ?_
    refine zr_aload_n h dX12_readsSyllable_113 0 rfl rfl ?_
    refine zr_getI h zfo_X12_203 lR_0 rfl dX12_readsSyllable_114 ?_
    refine zr_dup2_11 h dX12_readsSyllable_117 rfl rfl ?_
    have hb := zOk_chk hk
    have hk := hb.2
    refine zr_iald h lR_7 hb.1 dX12_readsSyllable_118 ?_
    refine zr_iconst (v := (zI 1)) h dX12_readsSyllable_119 rfl ?_
    refine zr_iadd h dX12_readsSyllable_120 ?_
    have hb := zOk_chk hk
    have hk := hb.2
    refine zr_iast h lR_7 hb.1 dX12_readsSyllable_121 ?_
    refine zr_mem (fun M_121 eM => ?_)
    have hk := zOk_bnd eM hk
    have hk := zOk_some hk
    exact zr_vret h dX12_readsSyllable_122 ⟨rfl, hk⟩
noncomputable def f_X12_readsSyllable_37 (M : ZMem) (x1 : Int32) : Option ZMem := zbnd (zstI M 0 2 ((M.1 0 2) + (zI 1))) (fun M_44 => zbind (f_X12_isRight M_44) (fun r_48 => if r_48 = (zI 0) then f_X12_readsSyllable_64 M_44 x1 (zI 0) else zbind (f_X12_oneOf 1 M_44) (fun r_57 => f_X12_readsSyllable_64 r_57.1 x1 r_57.2)))
set_option maxRecDepth 100000 in
set_option maxHeartbeats 4000000 in
theorem w_X12_readsSyllable_37 {E : ZEv} {G : ZG} {K : ZMem → Prop} (h : zRu lyR E G (zRv K) cX12_readsSyllable RX12 3 none 5) (M : ZMem) (x1 : Int32) (hk : zOk (f_X12_readsSyllable_37 M x1) K) : G M 37 [(0, zrf E 0), (1, .int x1)] [] := by
  unfold f_X12_readsSyllable_37 at hk
  refine zr_aload_n h dX12_readsSyllable_37 0 rfl rfl ?_
  refine zr_dup h dX12_readsSyllable_38 rfl ?_
  refine zr_getI h zfo_X12_113 lR_0 rfl dX12_readsSyllable_39 ?_
  refine zr_iconst (v := (zI 1)) h dX12_readsSyllable_42 rfl ?_
  refine zr_iadd h dX12_readsSyllable_43 ?_
  refine zr_putI h zfp_X12_113 lR_0 rfl dX12_readsSyllable_44 ?_
  refine zr_mem (fun M_44 eM => ?_)
  have hk := zOk_bnd eM hk
  refine zr_aload_n h dX12_readsSyllable_47 0 rfl rfl ?_
  refine zr_callVp h lR_0 zcw_X12_147 (by decide) (c_X12_isRight E M_44 _ (zOk_bind hk)) rfl rfl (Nat.le_of_ble_eq_true rfl) dX12_readsSyllable_48 (fun r_48 hk => ?_)
  refine zr_if_eq (tgt := 63) h dX12_readsSyllable_51 (by decide) (fun c => ?_) (fun c => ?_)
  · have hk := zOk_t c hk
    refine zr_iconst (v := (zI 0)) h dX12_readsSyllable_63 rfl ?_
    exact w_X12_readsSyllable_64 h M_44 x1 (zI 0) hk
  · have hk := zOk_f c hk
    refine zr_aload_n h dX12_readsSyllable_54 0 rfl rfl ?_
    refine zr_ldcS_RX12_206 h dX12_readsSyllable_55 ?_
    refine zr_callVm h lR_0 zcw_X12_199 (by decide) (c_X12_oneOf E 1 (by decide) M_44 _ (zOk_bind hk)) rfl rfl (Nat.le_of_ble_eq_true rfl) dX12_readsSyllable_57 (fun r_57 hk => ?_)
    refine zr_goto (tgt := 64) h dX12_readsSyllable_60 (by decide) ?_
    exact w_X12_readsSyllable_64 h r_57.1 x1 r_57.2 hk
noncomputable def f_X12_readsSyllable (M : ZMem) : Option ZMem := zbind (f_X12_oneOf 0 M) (fun r_3 => zbind (f_X12_isRight r_3.1) (fun r_8 => if r_8 = (zI 0) then f_X12_readsSyllable_37 r_3.1 r_3.2 else zchk (zin (r_3.1.1 0 12) 5) (if (r_3.1.1 7 (zix (r_3.1.1 0 12))) = (zI 7) then zbind (f_X12_fails r_3.1 (zI 2) (r_3.1.1 0 2)) (fun M_34 => f_X12_readsSyllable_37 M_34 r_3.2) else f_X12_readsSyllable_37 r_3.1 r_3.2)))
set_option maxRecDepth 100000 in
set_option maxHeartbeats 4000000 in
theorem c_X12_readsSyllable (E : ZEv) (M : ZMem) (K : ZMem → Prop) (hk : zOk (f_X12_readsSyllable M) K) : zCon lyR E yX12_readsSyllable cX12_readsSyllable 3 none 5 [zrf E 0] M (zRv K) := by
  refine zcon_of (L0 := [(0, zrf E 0)]) (by decide) rfl (Nat.le_of_ble_eq_true rfl) (fun G h => ?_)
  have h : zRu lyR E G (zRv K) cX12_readsSyllable RX12 3 none 5 := h
  unfold f_X12_readsSyllable at hk
  refine zr_aload_n h dX12_readsSyllable_0 0 rfl rfl ?_
  refine zr_ldcS_RX12_197 h dX12_readsSyllable_1 ?_
  refine zr_callVm h lR_0 zcw_X12_199 (by decide) (c_X12_oneOf E 0 (by decide) M _ (zOk_bind hk)) rfl rfl (Nat.le_of_ble_eq_true rfl) dX12_readsSyllable_3 (fun r_3 hk => ?_)
  refine zr_istore_n (L' := [(0, zrf E 0), (1, .int r_3.2)]) h [1, 0] dX12_readsSyllable_6 rfl (by decide) rfl ?_
  refine zr_aload_n h dX12_readsSyllable_7 0 rfl rfl ?_
  refine zr_callVp h lR_0 zcw_X12_147 (by decide) (c_X12_isRight E r_3.1 _ (zOk_bind hk)) rfl rfl (Nat.le_of_ble_eq_true rfl) dX12_readsSyllable_8 (fun r_8 hk => ?_)
  refine zr_if_eq (tgt := 37) h dX12_readsSyllable_11 (by decide) (fun c => ?_) (fun c => ?_)
  · have hk := zOk_t c hk
    exact w_X12_readsSyllable_37 h r_3.1 r_3.2 hk
  · have hk := zOk_f c hk
    refine zr_aload_n h dX12_readsSyllable_14 0 rfl rfl ?_
    refine zr_getR h zfo_X12_29 lR_0 rfl dX12_readsSyllable_15 ?_
    refine zr_aload_n h dX12_readsSyllable_18 0 rfl rfl ?_
    refine zr_getI h zfo_X12_203 lR_0 rfl dX12_readsSyllable_19 ?_
    have hb := zOk_chk hk
    have hk := hb.2
    refine zr_iald h lR_7 hb.1 dX12_readsSyllable_22 ?_
    refine zr_bipush (v := (zI 7)) h dX12_readsSyllable_23 (by decide) ?_
    refine zr_icmp_ne (tgt := 37) h dX12_readsSyllable_25 (by decide) (fun c => ?_) (fun c => ?_)
    · have hk := zOk_t c hk
      refine zr_aload_n h dX12_readsSyllable_28 0 rfl rfl ?_
      refine zr_iconst (v := (zI 2)) h dX12_readsSyllable_29 rfl ?_
      refine zr_aload_n h dX12_readsSyllable_30 0 rfl rfl ?_
      refine zr_getI h zfo_X12_113 lR_0 rfl dX12_readsSyllable_31 ?_
      refine zr_callVv h lR_0 zcw_X12_134 (by decide) (c_X12_fails E r_3.1 (zI 2) (r_3.1.1 0 2) _ (zOk_bind hk)) rfl rfl (Nat.le_of_ble_eq_true rfl) dX12_readsSyllable_34 (fun M_34 hk => ?_)
      exact w_X12_readsSyllable_37 h M_34 r_3.2 hk
    · have hk := zOk_f c hk
      exact w_X12_readsSyllable_37 h r_3.1 r_3.2 hk
theorem dX12_isNameTold_0 : decode cX12_isNameTold 0 = .ok (.iconst 0, 1) := by decide +kernel
theorem dX12_isNameTold_1 : decode cX12_isNameTold 1 = .ok (.istore_n 1, 1) := by decide +kernel
theorem dX12_isNameTold_2 : decode cX12_isNameTold 2 = .ok (.iload_n 1, 1) := by decide +kernel
theorem dX12_isNameTold_3 : decode cX12_isNameTold 3 = .ok (.aload_n 0, 1) := by decide +kernel
theorem dX12_isNameTold_4 : decode cX12_isNameTold 4 = .ok (.getfield 203, 3) := by decide +kernel
theorem dX12_isNameTold_7 : decode cX12_isNameTold 7 = .ok (.if_icmp .ge 95, 3) := by decide +kernel
theorem dX12_isNameTold_10 : decode cX12_isNameTold 10 = .ok (.aload_n 0, 1) := by decide +kernel
theorem dX12_isNameTold_11 : decode cX12_isNameTold 11 = .ok (.getfield 29, 3) := by decide +kernel
theorem dX12_isNameTold_14 : decode cX12_isNameTold 14 = .ok (.iload_n 1, 1) := by decide +kernel
theorem dX12_isNameTold_15 : decode cX12_isNameTold 15 = .ok (.iaload, 1) := by decide +kernel
theorem dX12_isNameTold_16 : decode cX12_isNameTold 16 = .ok (.aload_n 0, 1) := by decide +kernel
theorem dX12_isNameTold_17 : decode cX12_isNameTold 17 = .ok (.getfield 29, 3) := by decide +kernel
theorem dX12_isNameTold_20 : decode cX12_isNameTold 20 = .ok (.aload_n 0, 1) := by decide +kernel
theorem dX12_isNameTold_21 : decode cX12_isNameTold 21 = .ok (.getfield 203, 3) := by decide +kernel
theorem dX12_isNameTold_24 : decode cX12_isNameTold 24 = .ok (.iaload, 1) := by decide +kernel
theorem dX12_isNameTold_25 : decode cX12_isNameTold 25 = .ok (.if_icmp .ne 7, 3) := by decide +kernel
theorem dX12_isNameTold_28 : decode cX12_isNameTold 28 = .ok (.iconst 1, 1) := by decide +kernel
theorem dX12_isNameTold_29 : decode cX12_isNameTold 29 = .ok (.goto 4, 3) := by decide +kernel
theorem dX12_isNameTold_32 : decode cX12_isNameTold 32 = .ok (.iconst 0, 1) := by decide +kernel
theorem dX12_isNameTold_33 : decode cX12_isNameTold 33 = .ok (.istore_n 2, 1) := by decide +kernel
theorem dX12_isNameTold_34 : decode cX12_isNameTold 34 = .ok (.iconst 0, 1) := by decide +kernel
theorem dX12_isNameTold_35 : decode cX12_isNameTold 35 = .ok (.istore_n 3, 1) := by decide +kernel
theorem dX12_isNameTold_36 : decode cX12_isNameTold 36 = .ok (.iload_n 3, 1) := by decide +kernel
theorem dX12_isNameTold_37 : decode cX12_isNameTold 37 = .ok (.aload_n 0, 1) := by decide +kernel
theorem dX12_isNameTold_38 : decode cX12_isNameTold 38 = .ok (.getfield 29, 3) := by decide +kernel
theorem dX12_isNameTold_41 : decode cX12_isNameTold 41 = .ok (.iload_n 1, 1) := by decide +kernel
theorem dX12_isNameTold_42 : decode cX12_isNameTold 42 = .ok (.iaload, 1) := by decide +kernel
theorem dX12_isNameTold_43 : decode cX12_isNameTold 43 = .ok (.if_icmp .ge 47, 3) := by decide +kernel
theorem dX12_isNameTold_46 : decode cX12_isNameTold 46 = .ok (.iload_n 2, 1) := by decide +kernel
theorem dX12_isNameTold_47 : decode cX12_isNameTold 47 = .ok (.ifCond .eq 43, 3) := by decide +kernel
theorem dX12_isNameTold_50 : decode cX12_isNameTold 50 = .ok (.aload_n 0, 1) := by decide +kernel
theorem dX12_isNameTold_51 : decode cX12_isNameTold 51 = .ok (.getfield 32, 3) := by decide +kernel
theorem dX12_isNameTold_54 : decode cX12_isNameTold 54 = .ok (.bipush 7, 2) := by decide +kernel
theorem dX12_isNameTold_56 : decode cX12_isNameTold 56 = .ok (.iload_n 1, 1) := by decide +kernel
theorem dX12_isNameTold_57 : decode cX12_isNameTold 57 = .ok (.imul, 1) := by decide +kernel
theorem dX12_isNameTold_58 : decode cX12_isNameTold 58 = .ok (.iload_n 3, 1) := by decide +kernel
theorem dX12_isNameTold_59 : decode cX12_isNameTold 59 = .ok (.iadd, 1) := by decide +kernel
theorem dX12_isNameTold_60 : decode cX12_isNameTold 60 = .ok (.iaload, 1) := by decide +kernel
theorem dX12_isNameTold_61 : decode cX12_isNameTold 61 = .ok (.aload_n 0, 1) := by decide +kernel
theorem dX12_isNameTold_62 : decode cX12_isNameTold 62 = .ok (.getfield 32, 3) := by decide +kernel
theorem dX12_isNameTold_65 : decode cX12_isNameTold 65 = .ok (.bipush 7, 2) := by decide +kernel
theorem dX12_isNameTold_67 : decode cX12_isNameTold 67 = .ok (.aload_n 0, 1) := by decide +kernel
theorem dX12_isNameTold_68 : decode cX12_isNameTold 68 = .ok (.getfield 203, 3) := by decide +kernel
theorem dX12_isNameTold_71 : decode cX12_isNameTold 71 = .ok (.imul, 1) := by decide +kernel
theorem dX12_isNameTold_72 : decode cX12_isNameTold 72 = .ok (.iload_n 3, 1) := by decide +kernel
theorem dX12_isNameTold_73 : decode cX12_isNameTold 73 = .ok (.iadd, 1) := by decide +kernel
theorem dX12_isNameTold_74 : decode cX12_isNameTold 74 = .ok (.iaload, 1) := by decide +kernel
theorem dX12_isNameTold_75 : decode cX12_isNameTold 75 = .ok (.if_icmp .ne 7, 3) := by decide +kernel
theorem dX12_isNameTold_78 : decode cX12_isNameTold 78 = .ok (.iconst 1, 1) := by decide +kernel
theorem dX12_isNameTold_79 : decode cX12_isNameTold 79 = .ok (.goto 4, 3) := by decide +kernel
theorem dX12_isNameTold_82 : decode cX12_isNameTold 82 = .ok (.iconst 0, 1) := by decide +kernel
theorem dX12_isNameTold_83 : decode cX12_isNameTold 83 = .ok (.istore_n 2, 1) := by decide +kernel
theorem dX12_isNameTold_84 : decode cX12_isNameTold 84 = .ok (.iinc 3 1, 3) := by decide +kernel
theorem dX12_isNameTold_87 : decode cX12_isNameTold 87 = .ok (.goto (-51), 3) := by decide +kernel
theorem dX12_isNameTold_90 : decode cX12_isNameTold 90 = .ok (.iload_n 2, 1) := by decide +kernel
theorem dX12_isNameTold_91 : decode cX12_isNameTold 91 = .ok (.ifCond .eq 5, 3) := by decide +kernel
theorem dX12_isNameTold_94 : decode cX12_isNameTold 94 = .ok (.iconst 1, 1) := by decide +kernel
theorem dX12_isNameTold_95 : decode cX12_isNameTold 95 = .ok (.ireturn, 1) := by decide +kernel
theorem dX12_isNameTold_96 : decode cX12_isNameTold 96 = .ok (.iinc 1 1, 3) := by decide +kernel
theorem dX12_isNameTold_99 : decode cX12_isNameTold 99 = .ok (.goto (-97), 3) := by decide +kernel
theorem dX12_isNameTold_102 : decode cX12_isNameTold 102 = .ok (.iconst 0, 1) := by decide +kernel
theorem dX12_isNameTold_103 : decode cX12_isNameTold 103 = .ok (.ireturn, 1) := by decide +kernel
noncomputable def f_X12_isNameTold_L36 (M : ZMem) (x1 : Int32) (s : (Int32 × Int32)) : Option ((Int32 × Int32) ⊕ (Int32)) := zchk (zin x1 5) (if (M.1 7 (zix x1)) ≤ s.2 then some (.inr s.1) else if s.1 = (zI 0) then some (.inr s.1) else zchk (zin (((zI 7) * x1) + s.2) 35) (zchk (zin (((zI 7) * (M.1 0 12)) + s.2) 35) (if (M.1 8 (zix (((zI 7) * x1) + s.2))) = (M.1 8 (zix (((zI 7) * (M.1 0 12)) + s.2))) then zbnd (s.2 + (zI 1)) (fun x3_84 => some (.inl ((zI 1), x3_84))) else zbnd (s.2 + (zI 1)) (fun x3_84 => some (.inl ((zI 0), x3_84))))))
set_option maxRecDepth 100000 in
set_option maxHeartbeats 4000000 in
theorem w_X12_isNameTold_L36 {E : ZEv} {G : ZG} {K : Int32 → Prop} (M : ZMem) (h : zRu lyR E G (zRp M K) cX12_isNameTold RX12 4 (some .boolean) 0) (x1 : Int32) (s : (Int32 × Int32)) (hk : zOk (zloop (f_X12_isNameTold_L36 M x1) s) (fun e => G M 90 [(0, zrf E 0), (1, .int x1), (2, .int e)] [])) : G M 36 [(0, zrf E 0), (1, .int x1), (2, .int s.1), (3, .int s.2)] [] := by
  refine zloop_walk (P := fun s => G M 36 [(0, zrf E 0), (1, .int x1), (2, .int s.1), (3, .int s.2)] []) hk (fun s hk => ?_)
  unfold f_X12_isNameTold_L36 at hk
  refine zr_iload_n h dX12_isNameTold_36 3 rfl rfl ?_
  refine zr_aload_n h dX12_isNameTold_37 0 rfl rfl ?_
  refine zr_getR h zfo_X12_29 lR_0 rfl dX12_isNameTold_38 ?_
  refine zr_iload_n h dX12_isNameTold_41 1 rfl rfl ?_
  have hb := zOk_chk hk
  have hk := hb.2
  refine zr_iald h lR_7 hb.1 dX12_isNameTold_42 ?_
  refine zr_icmp_ge (tgt := 90) h dX12_isNameTold_43 (by decide) (fun c => ?_) (fun c => ?_)
  · have hk := zOk_t c hk
    have hk := zOk_some hk
    exact zr_weak h [0, 1, 2] rfl hk
  · have hk := zOk_f c hk
    refine zr_iload_n h dX12_isNameTold_46 2 rfl rfl ?_
    refine zr_if_eq (tgt := 90) h dX12_isNameTold_47 (by decide) (fun c => ?_) (fun c => ?_)
    · have hk := zOk_t c hk
      have hk := zOk_some hk
      exact zr_weak h [0, 1, 2] rfl hk
    · have hk := zOk_f c hk
      refine zr_aload_n h dX12_isNameTold_50 0 rfl rfl ?_
      refine zr_getR h zfo_X12_32 lR_0 rfl dX12_isNameTold_51 ?_
      refine zr_bipush (v := (zI 7)) h dX12_isNameTold_54 (by decide) ?_
      refine zr_iload_n h dX12_isNameTold_56 1 rfl rfl ?_
      refine zr_imul h dX12_isNameTold_57 ?_
      refine zr_iload_n h dX12_isNameTold_58 3 rfl rfl ?_
      refine zr_iadd h dX12_isNameTold_59 ?_
      have hb := zOk_chk hk
      have hk := hb.2
      refine zr_iald h lR_8 hb.1 dX12_isNameTold_60 ?_
      refine zr_aload_n h dX12_isNameTold_61 0 rfl rfl ?_
      refine zr_getR h zfo_X12_32 lR_0 rfl dX12_isNameTold_62 ?_
      refine zr_bipush (v := (zI 7)) h dX12_isNameTold_65 (by decide) ?_
      refine zr_aload_n h dX12_isNameTold_67 0 rfl rfl ?_
      refine zr_getI h zfo_X12_203 lR_0 rfl dX12_isNameTold_68 ?_
      refine zr_imul h dX12_isNameTold_71 ?_
      refine zr_iload_n h dX12_isNameTold_72 3 rfl rfl ?_
      refine zr_iadd h dX12_isNameTold_73 ?_
      have hb := zOk_chk hk
      have hk := hb.2
      refine zr_iald h lR_8 hb.1 dX12_isNameTold_74 ?_
      refine zr_icmp_ne (tgt := 82) h dX12_isNameTold_75 (by decide) (fun c => ?_) (fun c => ?_)
      · have hk := zOk_t c hk
        refine zr_iconst (v := (zI 1)) h dX12_isNameTold_78 rfl ?_
        refine zr_goto (tgt := 83) h dX12_isNameTold_79 (by decide) ?_
        refine zr_istore_n (L' := [(0, zrf E 0), (1, .int x1), (2, .int (zI 1)), (3, .int s.2)]) h [1, 2, 0, 3] dX12_isNameTold_83 rfl (by decide) rfl ?_
        obtain ⟨x3_84, ex⟩ : ∃ y : Int32, y = s.2 + (zI 1) := ⟨_, rfl⟩
        have hk := zOk_bnd ex hk
        refine zr_iinc (v := x3_84) (L' := [(0, zrf E 0), (1, .int x1), (2, .int (zI 1)), (3, .int x3_84)]) h 3 [1, 2, 3, 0] dX12_isNameTold_84 rfl (by rw [ex]; rfl) (by decide) rfl ?_
        refine zr_goto (tgt := 36) h dX12_isNameTold_87 (by decide) ?_
        have hk := zOk_some hk
        exact zr_weak h [0, 1, 2, 3] rfl hk
      · have hk := zOk_f c hk
        refine zr_iconst (v := (zI 0)) h dX12_isNameTold_82 rfl ?_
        refine zr_istore_n (L' := [(0, zrf E 0), (1, .int x1), (2, .int (zI 0)), (3, .int s.2)]) h [1, 2, 0, 3] dX12_isNameTold_83 rfl (by decide) rfl ?_
        obtain ⟨x3_84, ex⟩ : ∃ y : Int32, y = s.2 + (zI 1) := ⟨_, rfl⟩
        have hk := zOk_bnd ex hk
        refine zr_iinc (v := x3_84) (L' := [(0, zrf E 0), (1, .int x1), (2, .int (zI 0)), (3, .int x3_84)]) h 3 [1, 2, 3, 0] dX12_isNameTold_84 rfl (by rw [ex]; rfl) (by decide) rfl ?_
        refine zr_goto (tgt := 36) h dX12_isNameTold_87 (by decide) ?_
        have hk := zOk_some hk
        exact zr_weak h [0, 1, 2, 3] rfl hk
noncomputable def f_X12_isNameTold_33_L2 (M : ZMem) (x1 : Int32) (v0 : Int32) : Option ((Int32) ⊕ ((Unit) ⊕ Int32)) := zbind (zloop (f_X12_isNameTold_L36 M x1) (v0, (zI 0))) (fun e36 => if e36 = (zI 0) then zbnd (x1 + (zI 1)) (fun x1_96 => some (.inl x1_96)) else some (.inr (.inr (zI 1))))
set_option maxRecDepth 100000 in
set_option maxHeartbeats 4000000 in
theorem w_X12_isNameTold_33_L2 {E : ZEv} {G : ZG} {K : Int32 → Prop} (M : ZMem) (h : zRu lyR E G (zRp M K) cX12_isNameTold RX12 4 (some .boolean) 0) (x1 : Int32) (v0 : Int32) (hk : zOk (f_X12_isNameTold_33_L2 M x1 v0) (zlp (fun s => G M 2 [(0, zrf E 0), (1, .int s)] []) (fun e => zsel e (fun e0 => G M 102 [] []) (fun f0 => K f0)))) : G M 33 [(0, zrf E 0), (1, .int x1)] [.int v0] := by
  unfold f_X12_isNameTold_33_L2 at hk
  refine zr_istore_n (L' := [(0, zrf E 0), (1, .int x1), (2, .int v0)]) h [1, 2, 0] dX12_isNameTold_33 rfl (by decide) rfl ?_
  refine zr_iconst (v := (zI 0)) h dX12_isNameTold_34 rfl ?_
  refine zr_istore_n (L' := [(0, zrf E 0), (1, .int x1), (2, .int v0), (3, .int (zI 0))]) h [1, 2, 3, 0] dX12_isNameTold_35 rfl (by decide) rfl ?_
  refine w_X12_isNameTold_L36 M h x1 (v0, (zI 0)) (zOk_mono (zOk_bind hk) (fun e36 hk => ?_))
  refine zr_iload_n h dX12_isNameTold_90 2 rfl rfl ?_
  refine zr_if_eq (tgt := 96) h dX12_isNameTold_91 (by decide) (fun c => ?_) (fun c => ?_)
  · have hk := zOk_t c hk
    obtain ⟨x1_96, ex⟩ : ∃ y : Int32, y = x1 + (zI 1) := ⟨_, rfl⟩
    have hk := zOk_bnd ex hk
    refine zr_iinc (v := x1_96) (L' := [(0, zrf E 0), (1, .int x1_96)]) h 1 [1, 0] dX12_isNameTold_96 rfl (by rw [ex]; rfl) (by decide) rfl ?_
    refine zr_goto (tgt := 2) h dX12_isNameTold_99 (by decide) ?_
    have hk := zOk_some hk
    exact zr_weak h [0, 1] rfl hk
  · have hk := zOk_f c hk
    refine zr_iconst (v := (zI 1)) h dX12_isNameTold_94 rfl ?_
    have hk := zOk_some hk
    exact zr_zret h dX12_isNameTold_95 (by decide) ⟨rfl, _, rfl, hk⟩
noncomputable def f_X12_isNameTold_L2 (M : ZMem) (s : (Int32)) : Option ((Int32) ⊕ ((Unit) ⊕ Int32)) := if (M.1 0 12) ≤ s then some (.inr (.inl ())) else zchk (zin s 5) (zchk (zin (M.1 0 12) 5) (if (M.1 7 (zix s)) = (M.1 7 (zix (M.1 0 12))) then f_X12_isNameTold_33_L2 M s (zI 1) else f_X12_isNameTold_33_L2 M s (zI 0)))
set_option maxRecDepth 100000 in
set_option maxHeartbeats 4000000 in
theorem w_X12_isNameTold_L2 {E : ZEv} {G : ZG} {K : Int32 → Prop} (M : ZMem) (h : zRu lyR E G (zRp M K) cX12_isNameTold RX12 4 (some .boolean) 0) (s : (Int32)) (hk : zOk (zloop (f_X12_isNameTold_L2 M) s) (fun e => zsel e (fun e0 => G M 102 [] []) (fun f0 => K f0))) : G M 2 [(0, zrf E 0), (1, .int s)] [] := by
  refine zloop_walk (P := fun s => G M 2 [(0, zrf E 0), (1, .int s)] []) hk (fun s hk => ?_)
  unfold f_X12_isNameTold_L2 at hk
  refine zr_iload_n h dX12_isNameTold_2 1 rfl rfl ?_
  refine zr_aload_n h dX12_isNameTold_3 0 rfl rfl ?_
  refine zr_getI h zfo_X12_203 lR_0 rfl dX12_isNameTold_4 ?_
  refine zr_icmp_ge (tgt := 102) h dX12_isNameTold_7 (by decide) (fun c => ?_) (fun c => ?_)
  · have hk := zOk_t c hk
    have hk := zOk_some hk
    exact zr_weak h [] rfl hk
  · have hk := zOk_f c hk
    refine zr_aload_n h dX12_isNameTold_10 0 rfl rfl ?_
    refine zr_getR h zfo_X12_29 lR_0 rfl dX12_isNameTold_11 ?_
    refine zr_iload_n h dX12_isNameTold_14 1 rfl rfl ?_
    have hb := zOk_chk hk
    have hk := hb.2
    refine zr_iald h lR_7 hb.1 dX12_isNameTold_15 ?_
    refine zr_aload_n h dX12_isNameTold_16 0 rfl rfl ?_
    refine zr_getR h zfo_X12_29 lR_0 rfl dX12_isNameTold_17 ?_
    refine zr_aload_n h dX12_isNameTold_20 0 rfl rfl ?_
    refine zr_getI h zfo_X12_203 lR_0 rfl dX12_isNameTold_21 ?_
    have hb := zOk_chk hk
    have hk := hb.2
    refine zr_iald h lR_7 hb.1 dX12_isNameTold_24 ?_
    refine zr_icmp_ne (tgt := 32) h dX12_isNameTold_25 (by decide) (fun c => ?_) (fun c => ?_)
    · have hk := zOk_t c hk
      refine zr_iconst (v := (zI 1)) h dX12_isNameTold_28 rfl ?_
      refine zr_goto (tgt := 33) h dX12_isNameTold_29 (by decide) ?_
      exact w_X12_isNameTold_33_L2 M h s (zI 1) hk
    · have hk := zOk_f c hk
      refine zr_iconst (v := (zI 0)) h dX12_isNameTold_32 rfl ?_
      exact w_X12_isNameTold_33_L2 M h s (zI 0) hk
noncomputable def f_X12_isNameTold (M : ZMem) : Option Int32 := zbind (zloop (f_X12_isNameTold_L2 M) (zI 0)) (fun e2 => zsel e2 (fun e2a => some (zI 0)) (fun e2b => some e2b))
set_option maxRecDepth 100000 in
set_option maxHeartbeats 4000000 in
theorem c_X12_isNameTold (E : ZEv) (M : ZMem) (K : Int32 → Prop) (hk : zOk (f_X12_isNameTold M) K) : zCon lyR E yX12_isNameTold cX12_isNameTold 4 (some .boolean) 0 [zrf E 0] M (zRp M K) := by
  refine zcon_of (L0 := [(0, zrf E 0)]) (by decide) rfl (Nat.le_of_ble_eq_true rfl) (fun G h => ?_)
  have h : zRu lyR E G (zRp M K) cX12_isNameTold RX12 4 (some .boolean) 0 := h
  unfold f_X12_isNameTold at hk
  refine zr_iconst (v := (zI 0)) h dX12_isNameTold_0 rfl ?_
  refine zr_istore_n (L' := [(0, zrf E 0), (1, .int (zI 0))]) h [1, 0] dX12_isNameTold_1 rfl (by decide) rfl ?_
  refine w_X12_isNameTold_L2 M h (zI 0) (zOk_mono (zOk_bind hk) (fun e2 hk => ?_))
  cases e2 with
  | inl e2a =>
    have hk := zOk_selL hk
    refine zr_iconst (v := (zI 0)) h dX12_isNameTold_102 rfl ?_
    have hk := zOk_some hk
    exact zr_zret h dX12_isNameTold_103 (by decide) ⟨rfl, _, rfl, hk⟩
  | inr e2b =>
    have hk := zOk_selR hk
    have hk := zOk_some hk
    exact hk
theorem dX12_name_0 : decode cX12_name 0 = .ok (.aload_n 0, 1) := by decide +kernel
theorem dX12_name_1 : decode cX12_name 1 = .ok (.getfield 203, 3) := by decide +kernel
theorem dX12_name_4 : decode cX12_name 4 = .ok (.iconst 4, 1) := by decide +kernel
theorem dX12_name_5 : decode cX12_name 5 = .ok (.if_icmp .ne 5, 3) := by decide +kernel
theorem dX12_name_8 : decode cX12_name 8 = .ok (.iconst (-1), 1) := by decide +kernel
theorem dX12_name_9 : decode cX12_name 9 = .ok (.ireturn, 1) := by decide +kernel
theorem dX12_name_10 : decode cX12_name 10 = .ok (.aload_n 0, 1) := by decide +kernel
theorem dX12_name_11 : decode cX12_name 11 = .ok (.invokevirtual 156, 3) := by decide +kernel
theorem dX12_name_14 : decode cX12_name 14 = .ok (.aload_n 0, 1) := by decide +kernel
theorem dX12_name_15 : decode cX12_name 15 = .ok (.getfield 29, 3) := by decide +kernel
theorem dX12_name_18 : decode cX12_name 18 = .ok (.aload_n 0, 1) := by decide +kernel
theorem dX12_name_19 : decode cX12_name 19 = .ok (.getfield 203, 3) := by decide +kernel
theorem dX12_name_22 : decode cX12_name 22 = .ok (.iconst 0, 1) := by decide +kernel
theorem dX12_name_23 : decode cX12_name 23 = .ok (.iastore, 1) := by decide +kernel
theorem dX12_name_24 : decode cX12_name 24 = .ok (.aload_n 0, 1) := by decide +kernel
theorem dX12_name_25 : decode cX12_name 25 = .ok (.invokevirtual 147, 3) := by decide +kernel
theorem dX12_name_28 : decode cX12_name 28 = .ok (.ifCond .eq 31, 3) := by decide +kernel
theorem dX12_name_31 : decode cX12_name 31 = .ok (.aload_n 0, 1) := by decide +kernel
theorem dX12_name_32 : decode cX12_name 32 = .ok (.getfield 29, 3) := by decide +kernel
theorem dX12_name_35 : decode cX12_name 35 = .ok (.aload_n 0, 1) := by decide +kernel
theorem dX12_name_36 : decode cX12_name 36 = .ok (.getfield 203, 3) := by decide +kernel
theorem dX12_name_39 : decode cX12_name 39 = .ok (.iaload, 1) := by decide +kernel
theorem dX12_name_40 : decode cX12_name 40 = .ok (.iconst 2, 1) := by decide +kernel
theorem dX12_name_41 : decode cX12_name 41 = .ok (.if_icmp .lt 11, 3) := by decide +kernel
theorem dX12_name_44 : decode cX12_name 44 = .ok (.aload_n 0, 1) := by decide +kernel
theorem dX12_name_45 : decode cX12_name 45 = .ok (.invokevirtual 119, 3) := by decide +kernel
theorem dX12_name_48 : decode cX12_name 48 = .ok (.iconst (-1), 1) := by decide +kernel
theorem dX12_name_49 : decode cX12_name 49 = .ok (.if_icmp .eq 10, 3) := by decide +kernel
theorem dX12_name_52 : decode cX12_name 52 = .ok (.aload_n 0, 1) := by decide +kernel
theorem dX12_name_53 : decode cX12_name 53 = .ok (.invokevirtual 208, 3) := by decide +kernel
theorem dX12_name_56 : decode cX12_name 56 = .ok (.goto (-32), 3) := by decide +kernel
theorem dX12_name_59 : decode cX12_name 59 = .ok (.aload_n 0, 1) := by decide +kernel
theorem dX12_name_60 : decode cX12_name 60 = .ok (.invokevirtual 147, 3) := by decide +kernel
theorem dX12_name_63 : decode cX12_name 63 = .ok (.ifCond .eq 16, 3) := by decide +kernel
theorem dX12_name_66 : decode cX12_name 66 = .ok (.aload_n 0, 1) := by decide +kernel
theorem dX12_name_67 : decode cX12_name 67 = .ok (.invokevirtual 211, 3) := by decide +kernel
theorem dX12_name_70 : decode cX12_name 70 = .ok (.ifCond .eq 9, 3) := by decide +kernel
theorem dX12_name_73 : decode cX12_name 73 = .ok (.aload_n 0, 1) := by decide +kernel
theorem dX12_name_74 : decode cX12_name 74 = .ok (.iconst 3, 1) := by decide +kernel
theorem dX12_name_75 : decode cX12_name 75 = .ok (.iconst 0, 1) := by decide +kernel
theorem dX12_name_76 : decode cX12_name 76 = .ok (.invokevirtual 134, 3) := by decide +kernel
theorem dX12_name_79 : decode cX12_name 79 = .ok (.aload_n 0, 1) := by decide +kernel
theorem dX12_name_80 : decode cX12_name 80 = .ok (.iconst 0, 1) := by decide +kernel
theorem dX12_name_81 : decode cX12_name 81 = .ok (.putfield 105, 3) := by decide +kernel
theorem dX12_name_84 : decode cX12_name 84 = .ok (.aload_n 0, 1) := by decide +kernel
theorem dX12_name_85 : decode cX12_name 85 = .ok (.invokevirtual 147, 3) := by decide +kernel
theorem dX12_name_88 : decode cX12_name 88 = .ok (.ifCond .ne 11, 3) := by decide +kernel
theorem dX12_name_91 : decode cX12_name 91 = .ok (.bipush (-2), 2) := by decide +kernel
theorem dX12_name_93 : decode cX12_name 93 = .ok (.aload_n 0, 1) := by decide +kernel
theorem dX12_name_94 : decode cX12_name 94 = .ok (.getfield 116, 3) := by decide +kernel
theorem dX12_name_97 : decode cX12_name 97 = .ok (.isub, 1) := by decide +kernel
theorem dX12_name_98 : decode cX12_name 98 = .ok (.ireturn, 1) := by decide +kernel
theorem dX12_name_99 : decode cX12_name 99 = .ok (.aload_n 0, 1) := by decide +kernel
theorem dX12_name_100 : decode cX12_name 100 = .ok (.dup, 1) := by decide +kernel
theorem dX12_name_101 : decode cX12_name 101 = .ok (.getfield 203, 3) := by decide +kernel
theorem dX12_name_104 : decode cX12_name 104 = .ok (.iconst 1, 1) := by decide +kernel
theorem dX12_name_105 : decode cX12_name 105 = .ok (.iadd, 1) := by decide +kernel
theorem dX12_name_106 : decode cX12_name 106 = .ok (.putfield 203, 3) := by decide +kernel
theorem dX12_name_109 : decode cX12_name 109 = .ok (.aload_n 0, 1) := by decide +kernel
theorem dX12_name_110 : decode cX12_name 110 = .ok (.getfield 203, 3) := by decide +kernel
theorem dX12_name_113 : decode cX12_name 113 = .ok (.iconst 1, 1) := by decide +kernel
theorem dX12_name_114 : decode cX12_name 114 = .ok (.isub, 1) := by decide +kernel
theorem dX12_name_115 : decode cX12_name 115 = .ok (.ireturn, 1) := by decide +kernel
noncomputable def f_X12_name_52_L24 (M : ZMem) : Option ((ZMem) ⊕ (ZMem)) := zbind (f_X12_readsSyllable M) (fun M_53 => some (.inl M_53))
set_option maxRecDepth 100000 in
set_option maxHeartbeats 4000000 in
theorem w_X12_name_52_L24 {E : ZEv} {G : ZG} {K : (ZMem × Int32) → Prop} (h : zRu lyR E G (zRm K) cX12_name RX12 1 (some .int) 6) (M : ZMem) (hk : zOk (f_X12_name_52_L24 M) (zlp (fun s => G s 24 [(0, zrf E 0)] []) (fun e => G e 59 [(0, zrf E 0)] []))) : G M 52 [(0, zrf E 0)] [] := by
  unfold f_X12_name_52_L24 at hk
  refine zr_aload_n h dX12_name_52 0 rfl rfl ?_
  refine zr_callVv h lR_0 zcw_X12_208 (by decide) (c_X12_readsSyllable E M _ (zOk_bind hk)) rfl rfl (Nat.le_of_ble_eq_true rfl) dX12_name_53 (fun M_53 hk => ?_)
  refine zr_goto (tgt := 24) h dX12_name_56 (by decide) ?_
  have hk := zOk_some hk
  exact zr_weak h [0] rfl hk
noncomputable def f_X12_name_L24 (s : (ZMem)) : Option ((ZMem) ⊕ (ZMem)) := zbind (f_X12_isRight s) (fun r_25 => if r_25 = (zI 0) then some (.inr s) else zchk (zin (s.1 0 12) 5) (if (s.1 7 (zix (s.1 0 12))) < (zI 2) then f_X12_name_52_L24 s else zbind (f_X12_sign s) (fun r_45 => if r_45 = (zI (-1)) then some (.inr s) else f_X12_name_52_L24 s)))
set_option maxRecDepth 100000 in
set_option maxHeartbeats 4000000 in
theorem w_X12_name_L24 {E : ZEv} {G : ZG} {K : (ZMem × Int32) → Prop} (h : zRu lyR E G (zRm K) cX12_name RX12 1 (some .int) 6) (s : (ZMem)) (hk : zOk (zloop (f_X12_name_L24) s) (fun e => G e 59 [(0, zrf E 0)] [])) : G s 24 [(0, zrf E 0)] [] := by
  refine zloop_walk (P := fun s => G s 24 [(0, zrf E 0)] []) hk (fun s hk => ?_)
  unfold f_X12_name_L24 at hk
  refine zr_aload_n h dX12_name_24 0 rfl rfl ?_
  refine zr_callVp h lR_0 zcw_X12_147 (by decide) (c_X12_isRight E s _ (zOk_bind hk)) rfl rfl (Nat.le_of_ble_eq_true rfl) dX12_name_25 (fun r_25 hk => ?_)
  refine zr_if_eq (tgt := 59) h dX12_name_28 (by decide) (fun c => ?_) (fun c => ?_)
  · have hk := zOk_t c hk
    have hk := zOk_some hk
    exact zr_weak h [0] rfl hk
  · have hk := zOk_f c hk
    refine zr_aload_n h dX12_name_31 0 rfl rfl ?_
    refine zr_getR h zfo_X12_29 lR_0 rfl dX12_name_32 ?_
    refine zr_aload_n h dX12_name_35 0 rfl rfl ?_
    refine zr_getI h zfo_X12_203 lR_0 rfl dX12_name_36 ?_
    have hb := zOk_chk hk
    have hk := hb.2
    refine zr_iald h lR_7 hb.1 dX12_name_39 ?_
    refine zr_iconst (v := (zI 2)) h dX12_name_40 rfl ?_
    refine zr_icmp_lt (tgt := 52) h dX12_name_41 (by decide) (fun c => ?_) (fun c => ?_)
    · have hk := zOk_t c hk
      exact w_X12_name_52_L24 h s hk
    · have hk := zOk_f c hk
      refine zr_aload_n h dX12_name_44 0 rfl rfl ?_
      refine zr_callVp h lR_0 zcw_X12_119 (by decide) (c_X12_sign E s _ (zOk_bind hk)) rfl rfl (Nat.le_of_ble_eq_true rfl) dX12_name_45 (fun r_45 hk => ?_)
      refine zr_iconst (v := (zI (-1))) h dX12_name_48 rfl ?_
      refine zr_icmp_eq (tgt := 59) h dX12_name_49 (by decide) (fun c => ?_) (fun c => ?_)
      · have hk := zOk_t c hk
        have hk := zOk_some hk
        exact zr_weak h [0] rfl hk
      · have hk := zOk_f c hk
        exact w_X12_name_52_L24 h s hk
noncomputable def f_X12_name_79 (M : ZMem) : Option (ZMem × Int32) := zbnd (zstI M 0 1 (zI 0)) (fun M_81 => zbind (f_X12_isRight M_81) (fun r_85 => if r_85 = (zI 0) then some (M_81, ((zI (-2)) - (M_81.1 0 3))) else zbnd (zstI M_81 0 12 ((M_81.1 0 12) + (zI 1))) (fun M_106 => some (M_106, ((M_106.1 0 12) - (zI 1))))))
set_option maxRecDepth 100000 in
set_option maxHeartbeats 4000000 in
theorem w_X12_name_79 {E : ZEv} {G : ZG} {K : (ZMem × Int32) → Prop} (h : zRu lyR E G (zRm K) cX12_name RX12 1 (some .int) 6) (M : ZMem) (hk : zOk (f_X12_name_79 M) K) : G M 79 [(0, zrf E 0)] [] := by
  unfold f_X12_name_79 at hk
  refine zr_aload_n h dX12_name_79 0 rfl rfl ?_
  refine zr_iconst (v := (zI 0)) h dX12_name_80 rfl ?_
  refine zr_putI h zfp_X12_105 lR_0 rfl dX12_name_81 ?_
  refine zr_mem (fun M_81 eM => ?_)
  have hk := zOk_bnd eM hk
  refine zr_aload_n h dX12_name_84 0 rfl rfl ?_
  refine zr_callVp h lR_0 zcw_X12_147 (by decide) (c_X12_isRight E M_81 _ (zOk_bind hk)) rfl rfl (Nat.le_of_ble_eq_true rfl) dX12_name_85 (fun r_85 hk => ?_)
  refine zr_if_ne (tgt := 99) h dX12_name_88 (by decide) (fun c => ?_) (fun c => ?_)
  · have hk := zOk_t c hk
    refine zr_bipush (v := (zI (-2))) h dX12_name_91 (by decide) ?_
    refine zr_aload_n h dX12_name_93 0 rfl rfl ?_
    refine zr_getI h zfo_X12_116 lR_0 rfl dX12_name_94 ?_
    refine zr_isub h dX12_name_97 ?_
    have hk := zOk_some hk
    exact zr_iret h dX12_name_98 ⟨_, rfl, hk⟩
  · have hk := zOk_f c hk
    refine zr_aload_n h dX12_name_99 0 rfl rfl ?_
    refine zr_dup h dX12_name_100 rfl ?_
    refine zr_getI h zfo_X12_203 lR_0 rfl dX12_name_101 ?_
    refine zr_iconst (v := (zI 1)) h dX12_name_104 rfl ?_
    refine zr_iadd h dX12_name_105 ?_
    refine zr_putI h zfp_X12_203 lR_0 rfl dX12_name_106 ?_
    refine zr_mem (fun M_106 eM => ?_)
    have hk := zOk_bnd eM hk
    refine zr_aload_n h dX12_name_109 0 rfl rfl ?_
    refine zr_getI h zfo_X12_203 lR_0 rfl dX12_name_110 ?_
    refine zr_iconst (v := (zI 1)) h dX12_name_113 rfl ?_
    refine zr_isub h dX12_name_114 ?_
    have hk := zOk_some hk
    exact zr_iret h dX12_name_115 ⟨_, rfl, hk⟩
noncomputable def f_X12_name (M : ZMem) : Option (ZMem × Int32) := if (M.1 0 12) = (zI 4) then some (M, (zI (-1))) else zbind (f_X12_starts M) (fun M_11 => zchk (zin (M_11.1 0 12) 5) (zbnd (zstI M_11 7 (zix (M_11.1 0 12)) (zI 0)) (fun M_23 => zbind (zloop (f_X12_name_L24) M_23) (fun e24 => zbind (f_X12_isRight e24) (fun r_60 => if r_60 = (zI 0) then f_X12_name_79 e24 else zbind (f_X12_isNameTold e24) (fun r_67 => if r_67 = (zI 0) then f_X12_name_79 e24 else zbind (f_X12_fails e24 (zI 3) (zI 0)) (fun M_76 => f_X12_name_79 M_76)))))))
set_option maxRecDepth 100000 in
set_option maxHeartbeats 4000000 in
theorem c_X12_name (E : ZEv) (M : ZMem) (K : ZMem × Int32 → Prop) (hk : zOk (f_X12_name M) K) : zCon lyR E yX12_name cX12_name 1 (some .int) 6 [zrf E 0] M (zRm K) := by
  refine zcon_of (L0 := [(0, zrf E 0)]) (by decide) rfl (Nat.le_of_ble_eq_true rfl) (fun G h => ?_)
  have h : zRu lyR E G (zRm K) cX12_name RX12 1 (some .int) 6 := h
  unfold f_X12_name at hk
  refine zr_aload_n h dX12_name_0 0 rfl rfl ?_
  refine zr_getI h zfo_X12_203 lR_0 rfl dX12_name_1 ?_
  refine zr_iconst (v := (zI 4)) h dX12_name_4 rfl ?_
  refine zr_icmp_ne (tgt := 10) h dX12_name_5 (by decide) (fun c => ?_) (fun c => ?_)
  · have hk := zOk_t c hk
    refine zr_iconst (v := (zI (-1))) h dX12_name_8 rfl ?_
    have hk := zOk_some hk
    exact zr_iret h dX12_name_9 ⟨_, rfl, hk⟩
  · have hk := zOk_f c hk
    refine zr_aload_n h dX12_name_10 0 rfl rfl ?_
    refine zr_callVv h lR_0 zcw_X12_156 (by decide) (c_X12_starts E M _ (zOk_bind hk)) rfl rfl (Nat.le_of_ble_eq_true rfl) dX12_name_11 (fun M_11 hk => ?_)
    refine zr_aload_n h dX12_name_14 0 rfl rfl ?_
    refine zr_getR h zfo_X12_29 lR_0 rfl dX12_name_15 ?_
    refine zr_aload_n h dX12_name_18 0 rfl rfl ?_
    refine zr_getI h zfo_X12_203 lR_0 rfl dX12_name_19 ?_
    refine zr_iconst (v := (zI 0)) h dX12_name_22 rfl ?_
    have hb := zOk_chk hk
    have hk := hb.2
    refine zr_iast h lR_7 hb.1 dX12_name_23 ?_
    refine zr_mem (fun M_23 eM => ?_)
    have hk := zOk_bnd eM hk
    refine w_X12_name_L24 h M_23 (zOk_mono (zOk_bind hk) (fun e24 hk => ?_))
    refine zr_aload_n h dX12_name_59 0 rfl rfl ?_
    refine zr_callVp h lR_0 zcw_X12_147 (by decide) (c_X12_isRight E e24 _ (zOk_bind hk)) rfl rfl (Nat.le_of_ble_eq_true rfl) dX12_name_60 (fun r_60 hk => ?_)
    refine zr_if_eq (tgt := 79) h dX12_name_63 (by decide) (fun c => ?_) (fun c => ?_)
    · have hk := zOk_t c hk
      exact w_X12_name_79 h e24 hk
    · have hk := zOk_f c hk
      refine zr_aload_n h dX12_name_66 0 rfl rfl ?_
      refine zr_callVp h lR_0 zcw_X12_211 (by decide) (c_X12_isNameTold E e24 _ (zOk_bind hk)) rfl rfl (Nat.le_of_ble_eq_true rfl) dX12_name_67 (fun r_67 hk => ?_)
      refine zr_if_eq (tgt := 79) h dX12_name_70 (by decide) (fun c => ?_) (fun c => ?_)
      · have hk := zOk_t c hk
        exact w_X12_name_79 h e24 hk
      · have hk := zOk_f c hk
        refine zr_aload_n h dX12_name_73 0 rfl rfl ?_
        refine zr_iconst (v := (zI 3)) h dX12_name_74 rfl ?_
        refine zr_iconst (v := (zI 0)) h dX12_name_75 rfl ?_
        refine zr_callVv h lR_0 zcw_X12_134 (by decide) (c_X12_fails E e24 (zI 3) (zI 0) _ (zOk_bind hk)) rfl rfl (Nat.le_of_ble_eq_true rfl) dX12_name_76 (fun M_76 hk => ?_)
        exact w_X12_name_79 h M_76 hk
theorem dX12_remembers_0 : decode cX12_remembers 0 = .ok (.aload_n 0, 1) := by decide +kernel
theorem dX12_remembers_1 : decode cX12_remembers 1 = .ok (.getfield 181, 3) := by decide +kernel
theorem dX12_remembers_4 : decode cX12_remembers 4 = .ok (.bipush 20, 2) := by decide +kernel
theorem dX12_remembers_6 : decode cX12_remembers 6 = .ok (.if_icmp .ne 46, 3) := by decide +kernel
theorem dX12_remembers_9 : decode cX12_remembers 9 = .ok (.sipush 460, 3) := by decide +kernel
theorem dX12_remembers_12 : decode cX12_remembers 12 = .ok (.istore_n 1, 1) := by decide +kernel
theorem dX12_remembers_13 : decode cX12_remembers 13 = .ok (.iload_n 1, 1) := by decide +kernel
theorem dX12_remembers_14 : decode cX12_remembers 14 = .ok (.sipush 9200, 3) := by decide +kernel
theorem dX12_remembers_17 : decode cX12_remembers 17 = .ok (.if_icmp .ge 25, 3) := by decide +kernel
theorem dX12_remembers_20 : decode cX12_remembers 20 = .ok (.aload_n 0, 1) := by decide +kernel
theorem dX12_remembers_21 : decode cX12_remembers 21 = .ok (.getfield 38, 3) := by decide +kernel
theorem dX12_remembers_24 : decode cX12_remembers 24 = .ok (.iload_n 1, 1) := by decide +kernel
theorem dX12_remembers_25 : decode cX12_remembers 25 = .ok (.sipush 460, 3) := by decide +kernel
theorem dX12_remembers_28 : decode cX12_remembers 28 = .ok (.isub, 1) := by decide +kernel
theorem dX12_remembers_29 : decode cX12_remembers 29 = .ok (.aload_n 0, 1) := by decide +kernel
theorem dX12_remembers_30 : decode cX12_remembers 30 = .ok (.getfield 38, 3) := by decide +kernel
theorem dX12_remembers_33 : decode cX12_remembers 33 = .ok (.iload_n 1, 1) := by decide +kernel
theorem dX12_remembers_34 : decode cX12_remembers 34 = .ok (.iaload, 1) := by decide +kernel
theorem dX12_remembers_35 : decode cX12_remembers 35 = .ok (.iastore, 1) := by decide +kernel
theorem dX12_remembers_36 : decode cX12_remembers 36 = .ok (.iinc 1 1, 3) := by decide +kernel
theorem dX12_remembers_39 : decode cX12_remembers 39 = .ok (.goto (-26), 3) := by decide +kernel
theorem dX12_remembers_42 : decode cX12_remembers 42 = .ok (.aload_n 0, 1) := by decide +kernel
theorem dX12_remembers_43 : decode cX12_remembers 43 = .ok (.dup, 1) := by decide +kernel
theorem dX12_remembers_44 : decode cX12_remembers 44 = .ok (.getfield 181, 3) := by decide +kernel
theorem dX12_remembers_47 : decode cX12_remembers 47 = .ok (.iconst 1, 1) := by decide +kernel
theorem dX12_remembers_48 : decode cX12_remembers 48 = .ok (.isub, 1) := by decide +kernel
theorem dX12_remembers_49 : decode cX12_remembers 49 = .ok (.putfield 181, 3) := by decide +kernel
theorem dX12_remembers_52 : decode cX12_remembers 52 = .ok (.iconst 0, 1) := by decide +kernel
theorem dX12_remembers_53 : decode cX12_remembers 53 = .ok (.istore_n 1, 1) := by decide +kernel
theorem dX12_remembers_54 : decode cX12_remembers 54 = .ok (.iload_n 1, 1) := by decide +kernel
theorem dX12_remembers_55 : decode cX12_remembers 55 = .ok (.sipush 460, 3) := by decide +kernel
theorem dX12_remembers_58 : decode cX12_remembers 58 = .ok (.if_icmp .ge 30, 3) := by decide +kernel
theorem dX12_remembers_61 : decode cX12_remembers 61 = .ok (.aload_n 0, 1) := by decide +kernel
theorem dX12_remembers_62 : decode cX12_remembers 62 = .ok (.getfield 38, 3) := by decide +kernel
theorem dX12_remembers_65 : decode cX12_remembers 65 = .ok (.sipush 460, 3) := by decide +kernel
theorem dX12_remembers_68 : decode cX12_remembers 68 = .ok (.aload_n 0, 1) := by decide +kernel
theorem dX12_remembers_69 : decode cX12_remembers 69 = .ok (.getfield 181, 3) := by decide +kernel
theorem dX12_remembers_72 : decode cX12_remembers 72 = .ok (.imul, 1) := by decide +kernel
theorem dX12_remembers_73 : decode cX12_remembers 73 = .ok (.iload_n 1, 1) := by decide +kernel
theorem dX12_remembers_74 : decode cX12_remembers 74 = .ok (.iadd, 1) := by decide +kernel
theorem dX12_remembers_75 : decode cX12_remembers 75 = .ok (.aload_n 0, 1) := by decide +kernel
theorem dX12_remembers_76 : decode cX12_remembers 76 = .ok (.getfield 35, 3) := by decide +kernel
theorem dX12_remembers_79 : decode cX12_remembers 79 = .ok (.iload_n 1, 1) := by decide +kernel
theorem dX12_remembers_80 : decode cX12_remembers 80 = .ok (.iaload, 1) := by decide +kernel
theorem dX12_remembers_81 : decode cX12_remembers 81 = .ok (.iastore, 1) := by decide +kernel
theorem dX12_remembers_82 : decode cX12_remembers 82 = .ok (.iinc 1 1, 3) := by decide +kernel
theorem dX12_remembers_85 : decode cX12_remembers 85 = .ok (.goto (-31), 3) := by decide +kernel
theorem dX12_remembers_88 : decode cX12_remembers 88 = .ok (.aload_n 0, 1) := by decide +kernel
theorem dX12_remembers_89 : decode cX12_remembers 89 = .ok (.dup, 1) := by decide +kernel
theorem dX12_remembers_90 : decode cX12_remembers 90 = .ok (.getfield 181, 3) := by decide +kernel
theorem dX12_remembers_93 : decode cX12_remembers 93 = .ok (.iconst 1, 1) := by decide +kernel
theorem dX12_remembers_94 : decode cX12_remembers 94 = .ok (.iadd, 1) := by decide +kernel
theorem dX12_remembers_95 : decode cX12_remembers 95 = .ok (.putfield 181, 3) := by decide +kernel
theorem dX12_remembers_98 : decode cX12_remembers 98 = .ok (.aload_n 0, 1) := by decide +kernel
theorem dX12_remembers_99 : decode cX12_remembers 99 = .ok (.iconst 0, 1) := by decide +kernel
theorem dX12_remembers_100 : decode cX12_remembers 100 = .ok (.putfield 184, 3) := by decide +kernel
theorem dX12_remembers_103 : decode cX12_remembers 103 = .ok (.return_, 1) := by decide +kernel
noncomputable def f_X12_remembers_L13 (s : (ZMem × Int32)) : Option ((ZMem × Int32) ⊕ (ZMem)) := if (zI 9200) ≤ s.2 then some (.inr s.1) else zchk (zin s.2 9200) (zchk (zin (s.2 - (zI 460)) 9200) (zbnd (zstI s.1 10 (zix (s.2 - (zI 460))) (s.1.1 10 (zix s.2))) (fun M_35 => zbnd (s.2 + (zI 1)) (fun x1_36 => some (.inl (M_35, x1_36))))))
set_option maxRecDepth 100000 in
set_option maxHeartbeats 4000000 in
theorem w_X12_remembers_L13 {E : ZEv} {G : ZG} {K : ZMem → Prop} (h : zRu lyR E G (zRv K) cX12_remembers RX12 2 none 0) (s : (ZMem × Int32)) (hk : zOk (zloop (f_X12_remembers_L13) s) (fun e => G e 42 [(0, zrf E 0)] [])) : G s.1 13 [(0, zrf E 0), (1, .int s.2)] [] := by
  refine zloop_walk (P := fun s => G s.1 13 [(0, zrf E 0), (1, .int s.2)] []) hk (fun s hk => ?_)
  unfold f_X12_remembers_L13 at hk
  refine zr_iload_n h dX12_remembers_13 1 rfl rfl ?_
  refine zr_sipush (v := (zI 9200)) h dX12_remembers_14 (by decide) ?_
  refine zr_icmp_ge (tgt := 42) h dX12_remembers_17 (by decide) (fun c => ?_) (fun c => ?_)
  · have hk := zOk_t c hk
    have hk := zOk_some hk
    exact zr_weak h [0] rfl hk
  · have hk := zOk_f c hk
    refine zr_aload_n h dX12_remembers_20 0 rfl rfl ?_
    refine zr_getR h zfo_X12_38 lR_0 rfl dX12_remembers_21 ?_
    refine zr_iload_n h dX12_remembers_24 1 rfl rfl ?_
    refine zr_sipush (v := (zI 460)) h dX12_remembers_25 (by decide) ?_
    refine zr_isub h dX12_remembers_28 ?_
    refine zr_aload_n h dX12_remembers_29 0 rfl rfl ?_
    refine zr_getR h zfo_X12_38 lR_0 rfl dX12_remembers_30 ?_
    refine zr_iload_n h dX12_remembers_33 1 rfl rfl ?_
    have hb := zOk_chk hk
    have hk := hb.2
    refine zr_iald h lR_10 hb.1 dX12_remembers_34 ?_
    have hb := zOk_chk hk
    have hk := hb.2
    refine zr_iast h lR_10 hb.1 dX12_remembers_35 ?_
    refine zr_mem (fun M_35 eM => ?_)
    have hk := zOk_bnd eM hk
    obtain ⟨x1_36, ex⟩ : ∃ y : Int32, y = s.2 + (zI 1) := ⟨_, rfl⟩
    have hk := zOk_bnd ex hk
    refine zr_iinc (v := x1_36) (L' := [(0, zrf E 0), (1, .int x1_36)]) h 1 [1, 0] dX12_remembers_36 rfl (by rw [ex]; rfl) (by decide) rfl ?_
    refine zr_goto (tgt := 13) h dX12_remembers_39 (by decide) ?_
    have hk := zOk_some hk
    exact zr_weak h [0, 1] rfl hk
noncomputable def f_X12_remembers_L54 (s : (ZMem × Int32)) : Option ((ZMem × Int32) ⊕ (ZMem)) := if (zI 460) ≤ s.2 then some (.inr s.1) else zchk (zin s.2 460) (zchk (zin (((zI 460) * (s.1.1 0 17)) + s.2) 9200) (zbnd (zstI s.1 10 (zix (((zI 460) * (s.1.1 0 17)) + s.2)) (s.1.1 9 (zix s.2))) (fun M_81 => zbnd (s.2 + (zI 1)) (fun x1_82 => some (.inl (M_81, x1_82))))))
set_option maxRecDepth 100000 in
set_option maxHeartbeats 4000000 in
theorem w_X12_remembers_L54 {E : ZEv} {G : ZG} {K : ZMem → Prop} (h : zRu lyR E G (zRv K) cX12_remembers RX12 2 none 0) (s : (ZMem × Int32)) (hk : zOk (zloop (f_X12_remembers_L54) s) (fun e => G e 88 [(0, zrf E 0)] [])) : G s.1 54 [(0, zrf E 0), (1, .int s.2)] [] := by
  refine zloop_walk (P := fun s => G s.1 54 [(0, zrf E 0), (1, .int s.2)] []) hk (fun s hk => ?_)
  unfold f_X12_remembers_L54 at hk
  refine zr_iload_n h dX12_remembers_54 1 rfl rfl ?_
  refine zr_sipush (v := (zI 460)) h dX12_remembers_55 (by decide) ?_
  refine zr_icmp_ge (tgt := 88) h dX12_remembers_58 (by decide) (fun c => ?_) (fun c => ?_)
  · have hk := zOk_t c hk
    have hk := zOk_some hk
    exact zr_weak h [0] rfl hk
  · have hk := zOk_f c hk
    refine zr_aload_n h dX12_remembers_61 0 rfl rfl ?_
    refine zr_getR h zfo_X12_38 lR_0 rfl dX12_remembers_62 ?_
    refine zr_sipush (v := (zI 460)) h dX12_remembers_65 (by decide) ?_
    refine zr_aload_n h dX12_remembers_68 0 rfl rfl ?_
    refine zr_getI h zfo_X12_181 lR_0 rfl dX12_remembers_69 ?_
    refine zr_imul h dX12_remembers_72 ?_
    refine zr_iload_n h dX12_remembers_73 1 rfl rfl ?_
    refine zr_iadd h dX12_remembers_74 ?_
    refine zr_aload_n h dX12_remembers_75 0 rfl rfl ?_
    refine zr_getR h zfo_X12_35 lR_0 rfl dX12_remembers_76 ?_
    refine zr_iload_n h dX12_remembers_79 1 rfl rfl ?_
    have hb := zOk_chk hk
    have hk := hb.2
    refine zr_iald h lR_9 hb.1 dX12_remembers_80 ?_
    have hb := zOk_chk hk
    have hk := hb.2
    refine zr_iast h lR_10 hb.1 dX12_remembers_81 ?_
    refine zr_mem (fun M_81 eM => ?_)
    have hk := zOk_bnd eM hk
    obtain ⟨x1_82, ex⟩ : ∃ y : Int32, y = s.2 + (zI 1) := ⟨_, rfl⟩
    have hk := zOk_bnd ex hk
    refine zr_iinc (v := x1_82) (L' := [(0, zrf E 0), (1, .int x1_82)]) h 1 [1, 0] dX12_remembers_82 rfl (by rw [ex]; rfl) (by decide) rfl ?_
    refine zr_goto (tgt := 54) h dX12_remembers_85 (by decide) ?_
    have hk := zOk_some hk
    exact zr_weak h [0, 1] rfl hk
noncomputable def f_X12_remembers_52 (M : ZMem) : Option ZMem := zbind (zloop (f_X12_remembers_L54) (M, (zI 0))) (fun e54 => zbnd (zstI e54 0 17 ((e54.1 0 17) + (zI 1))) (fun M_95 => zbnd (zstI M_95 0 45 (zI 0)) (fun M_100 => some M_100)))
set_option maxRecDepth 100000 in
set_option maxHeartbeats 4000000 in
theorem w_X12_remembers_52 {E : ZEv} {G : ZG} {K : ZMem → Prop} (h : zRu lyR E G (zRv K) cX12_remembers RX12 2 none 0) (M : ZMem) (hk : zOk (f_X12_remembers_52 M) K) : G M 52 [(0, zrf E 0)] [] := by
  unfold f_X12_remembers_52 at hk
  refine zr_iconst (v := (zI 0)) h dX12_remembers_52 rfl ?_
  refine zr_istore_n (L' := [(0, zrf E 0), (1, .int (zI 0))]) h [1, 0] dX12_remembers_53 rfl (by decide) rfl ?_
  refine w_X12_remembers_L54 h (M, (zI 0)) (zOk_mono (zOk_bind hk) (fun e54 hk => ?_))
  refine zr_aload_n h dX12_remembers_88 0 rfl rfl ?_
  refine zr_dup h dX12_remembers_89 rfl ?_
  refine zr_getI h zfo_X12_181 lR_0 rfl dX12_remembers_90 ?_
  refine zr_iconst (v := (zI 1)) h dX12_remembers_93 rfl ?_
  refine zr_iadd h dX12_remembers_94 ?_
  refine zr_putI h zfp_X12_181 lR_0 rfl dX12_remembers_95 ?_
  refine zr_mem (fun M_95 eM => ?_)
  have hk := zOk_bnd eM hk
  refine zr_aload_n h dX12_remembers_98 0 rfl rfl ?_
  refine zr_iconst (v := (zI 0)) h dX12_remembers_99 rfl ?_
  refine zr_putZ h zfp_X12_184 lR_0 rfl (by decide) dX12_remembers_100 ?_
  refine zr_mem (fun M_100 eM => ?_)
  have hk := zOk_bnd eM hk
  have hk := zOk_some hk
  exact zr_vret h dX12_remembers_103 ⟨rfl, hk⟩
noncomputable def f_X12_remembers (M : ZMem) : Option ZMem := if (M.1 0 17) = (zI 20) then zbind (zloop (f_X12_remembers_L13) (M, (zI 460))) (fun e13 => zbnd (zstI e13 0 17 ((e13.1 0 17) - (zI 1))) (fun M_49 => f_X12_remembers_52 M_49)) else f_X12_remembers_52 M
set_option maxRecDepth 100000 in
set_option maxHeartbeats 4000000 in
theorem c_X12_remembers (E : ZEv) (M : ZMem) (K : ZMem → Prop) (hk : zOk (f_X12_remembers M) K) : zCon lyR E yX12_remembers cX12_remembers 2 none 0 [zrf E 0] M (zRv K) := by
  refine zcon_of (L0 := [(0, zrf E 0)]) (by decide) rfl (Nat.le_of_ble_eq_true rfl) (fun G h => ?_)
  have h : zRu lyR E G (zRv K) cX12_remembers RX12 2 none 0 := h
  unfold f_X12_remembers at hk
  refine zr_aload_n h dX12_remembers_0 0 rfl rfl ?_
  refine zr_getI h zfo_X12_181 lR_0 rfl dX12_remembers_1 ?_
  refine zr_bipush (v := (zI 20)) h dX12_remembers_4 (by decide) ?_
  refine zr_icmp_ne (tgt := 52) h dX12_remembers_6 (by decide) (fun c => ?_) (fun c => ?_)
  · have hk := zOk_t c hk
    refine zr_sipush (v := (zI 460)) h dX12_remembers_9 (by decide) ?_
    refine zr_istore_n (L' := [(0, zrf E 0), (1, .int (zI 460))]) h [1, 0] dX12_remembers_12 rfl (by decide) rfl ?_
    refine w_X12_remembers_L13 h (M, (zI 460)) (zOk_mono (zOk_bind hk) (fun e13 hk => ?_))
    refine zr_aload_n h dX12_remembers_42 0 rfl rfl ?_
    refine zr_dup h dX12_remembers_43 rfl ?_
    refine zr_getI h zfo_X12_181 lR_0 rfl dX12_remembers_44 ?_
    refine zr_iconst (v := (zI 1)) h dX12_remembers_47 rfl ?_
    refine zr_isub h dX12_remembers_48 ?_
    refine zr_putI h zfp_X12_181 lR_0 rfl dX12_remembers_49 ?_
    refine zr_mem (fun M_49 eM => ?_)
    have hk := zOk_bnd eM hk
    exact w_X12_remembers_52 h M_49 hk
  · have hk := zOk_f c hk
    exact w_X12_remembers_52 h M hk
