theorem dX11_netOf_0 : decode cX11_netOf 0 = .ok (.iload_n 1, 1) := by decide +kernel
theorem dX11_netOf_1 : decode cX11_netOf 1 = .ok (.ifCond .eq 10, 3) := by decide +kernel
theorem dX11_netOf_4 : decode cX11_netOf 4 = .ok (.aload_n 0, 1) := by decide +kernel
theorem dX11_netOf_5 : decode cX11_netOf 5 = .ok (.getfield 67, 3) := by decide +kernel
theorem dX11_netOf_8 : decode cX11_netOf 8 = .ok (.goto 7, 3) := by decide +kernel
theorem dX11_netOf_11 : decode cX11_netOf 11 = .ok (.aload_n 0, 1) := by decide +kernel
theorem dX11_netOf_12 : decode cX11_netOf 12 = .ok (.getfield 63, 3) := by decide +kernel
theorem dX11_netOf_15 : decode cX11_netOf 15 = .ok (.areturn, 1) := by decide +kernel
set_option maxRecDepth 100000 in
theorem c_X11_netOf_0 (E : ZEv) (M : ZMem) (x1 : Int32) (hx : x1 = zI 0) : zCon lyC E yX11_netOf cX11_netOf 2 (some (.object "UnreadSigns$Net")) 0 [zrf E 0, .int x1] M (zRq E M 41) := by
  refine zcon_of (L0 := [(0, zrf E 0), (1, .int x1)]) (by decide) rfl (Nat.le_of_ble_eq_true rfl) (fun G h => ?_)
  have h : zRu lyC E G (zRq E M 41) cX11_netOf RX11 2 (some (.object "UnreadSigns$Net")) 0 := h
  refine zr_iload_n h dX11_netOf_0 1 rfl rfl ?_
  refine zr_if_eq (tgt := 11) h dX11_netOf_1 (by decide) (fun c => ?_) (fun c => absurd hx c)
  refine zr_aload_n h dX11_netOf_11 0 rfl rfl ?_
  refine zr_getR h zfo_X11_63 lC_0 rfl dX11_netOf_12 ?_
  exact zr_aret h dX11_netOf_15 ⟨rfl, rfl⟩
set_option maxRecDepth 100000 in
theorem c_X11_netOf_1 (E : ZEv) (M : ZMem) (x1 : Int32) (hx : ¬ x1 = zI 0) : zCon lyC E yX11_netOf cX11_netOf 2 (some (.object "UnreadSigns$Net")) 0 [zrf E 0, .int x1] M (zRq E M 45) := by
  refine zcon_of (L0 := [(0, zrf E 0), (1, .int x1)]) (by decide) rfl (Nat.le_of_ble_eq_true rfl) (fun G h => ?_)
  have h : zRu lyC E G (zRq E M 45) cX11_netOf RX11 2 (some (.object "UnreadSigns$Net")) 0 := h
  refine zr_iload_n h dX11_netOf_0 1 rfl rfl ?_
  refine zr_if_eq (tgt := 11) h dX11_netOf_1 (by decide) (fun c => absurd c hx) (fun c => ?_)
  refine zr_aload_n h dX11_netOf_4 0 rfl rfl ?_
  refine zr_getR h zfo_X11_67 lC_0 rfl dX11_netOf_5 ?_
  refine zr_goto (tgt := 15) h dX11_netOf_8 (by decide) ?_
  exact zr_aret h dX11_netOf_15 ⟨rfl, rfl⟩

theorem dX11_feed_0 : decode cX11_feed 0 = .ok (.aload_n 0, 1) := by decide +kernel
theorem dX11_feed_1 : decode cX11_feed 1 = .ok (.getfield 10, 3) := by decide +kernel
theorem dX11_feed_4 : decode cX11_feed 4 = .ok (.invokevirtual 99, 3) := by decide +kernel
theorem dX11_feed_7 : decode cX11_feed 7 = .ok (.bipush 20, 2) := by decide +kernel
theorem dX11_feed_9 : decode cX11_feed 9 = .ok (.iadd, 1) := by decide +kernel
theorem dX11_feed_10 : decode cX11_feed 10 = .ok (.sipush 300, 3) := by decide +kernel
theorem dX11_feed_13 : decode cX11_feed 13 = .ok (.if_icmp .le 5, 3) := by decide +kernel
theorem dX11_feed_16 : decode cX11_feed 16 = .ok (.iconst (-1), 1) := by decide +kernel
theorem dX11_feed_17 : decode cX11_feed 17 = .ok (.ireturn, 1) := by decide +kernel
theorem dX11_feed_18 : decode cX11_feed 18 = .ok (.aload_n 0, 1) := by decide +kernel
theorem dX11_feed_19 : decode cX11_feed 19 = .ok (.getfield 10, 3) := by decide +kernel
theorem dX11_feed_22 : decode cX11_feed 22 = .ok (.iload_n 1, 1) := by decide +kernel
theorem dX11_feed_23 : decode cX11_feed 23 = .ok (.invokevirtual 103, 3) := by decide +kernel
theorem dX11_feed_26 : decode cX11_feed 26 = .ok (.aload_n 0, 1) := by decide +kernel
theorem dX11_feed_27 : decode cX11_feed 27 = .ok (.getfield 10, 3) := by decide +kernel
theorem dX11_feed_30 : decode cX11_feed 30 = .ok (.iload_n 2, 1) := by decide +kernel
theorem dX11_feed_31 : decode cX11_feed 31 = .ok (.invokevirtual 103, 3) := by decide +kernel
theorem dX11_feed_34 : decode cX11_feed 34 = .ok (.aload_n 0, 1) := by decide +kernel
theorem dX11_feed_35 : decode cX11_feed 35 = .ok (.getfield 10, 3) := by decide +kernel
theorem dX11_feed_38 : decode cX11_feed 38 = .ok (.iload_n 3, 1) := by decide +kernel
theorem dX11_feed_39 : decode cX11_feed 39 = .ok (.invokevirtual 103, 3) := by decide +kernel
theorem dX11_feed_42 : decode cX11_feed 42 = .ok (.aload_n 0, 1) := by decide +kernel
theorem dX11_feed_43 : decode cX11_feed 43 = .ok (.getfield 10, 3) := by decide +kernel
theorem dX11_feed_46 : decode cX11_feed 46 = .ok (.iload 4, 2) := by decide +kernel
theorem dX11_feed_48 : decode cX11_feed 48 = .ok (.invokevirtual 103, 3) := by decide +kernel
theorem dX11_feed_51 : decode cX11_feed 51 = .ok (.aload_n 0, 1) := by decide +kernel
theorem dX11_feed_52 : decode cX11_feed 52 = .ok (.getfield 10, 3) := by decide +kernel
theorem dX11_feed_55 : decode cX11_feed 55 = .ok (.iload 5, 2) := by decide +kernel
theorem dX11_feed_57 : decode cX11_feed 57 = .ok (.invokevirtual 103, 3) := by decide +kernel
theorem dX11_feed_60 : decode cX11_feed 60 = .ok (.aload_n 0, 1) := by decide +kernel
theorem dX11_feed_61 : decode cX11_feed 61 = .ok (.getfield 10, 3) := by decide +kernel
theorem dX11_feed_64 : decode cX11_feed 64 = .ok (.invokevirtual 99, 3) := by decide +kernel
theorem dX11_feed_67 : decode cX11_feed 67 = .ok (.ireturn, 1) := by decide +kernel
noncomputable def f_X11_feed (M : ZMem) (x1 : Int32) (x2 : Int32) (x3 : Int32) (x4 : Int32) (x5 : Int32) : Option (ZMem × Int32) := zbind (f_X8_used M) (fun r_4 => if (r_4 + (zI 20)) ≤ (zI 300) then zbind (f_X8_put M x1) (fun M_23 => zbind (f_X8_put M_23 x2) (fun M_31 => zbind (f_X8_put M_31 x3) (fun M_39 => zbind (f_X8_put M_39 x4) (fun M_48 => zbind (f_X8_put M_48 x5) (fun M_57 => zbind (f_X8_used M_57) (fun r_64 => some (M_57, r_64))))))) else some (M, (zI (-1))))
set_option maxRecDepth 100000 in
set_option maxHeartbeats 4000000 in
theorem c_X11_feed (E : ZEv) (M : ZMem) (x1 : Int32) (x2 : Int32) (x3 : Int32) (x4 : Int32) (x5 : Int32) (K : ZMem × Int32 → Prop) (hk : zOk (f_X11_feed M x1 x2 x3 x4 x5) K) : zCon lyC E yX11_feed cX11_feed 6 (some .int) 1 [zrf E 0, .int x1, .int x2, .int x3, .int x4, .int x5] M (zRm K) := by
  refine zcon_of (L0 := [(0, zrf E 0), (1, .int x1), (2, .int x2), (3, .int x3), (4, .int x4), (5, .int x5)]) (by decide) rfl (Nat.le_of_ble_eq_true rfl) (fun G h => ?_)
  have h : zRu lyC E G (zRm K) cX11_feed RX11 6 (some .int) 1 := h
  unfold f_X11_feed at hk
  refine zr_aload_n h dX11_feed_0 0 rfl rfl ?_
  refine zr_getR h zfo_X11_10 lC_0 rfl dX11_feed_1 ?_
  refine zr_callVp h lC_1 zcw_X11_99 (by decide) (c_X8_used E M _ (zOk_bind hk)) rfl rfl (Nat.le_of_ble_eq_true rfl) dX11_feed_4 (fun r_4 hk => ?_)
  refine zr_bipush (v := (zI 20)) h dX11_feed_7 (by decide) ?_
  refine zr_iadd h dX11_feed_9 ?_
  refine zr_sipush (v := (zI 300)) h dX11_feed_10 (by decide) ?_
  refine zr_icmp_le (tgt := 18) h dX11_feed_13 (by decide) (fun c => ?_) (fun c => ?_)
  · have hk := zOk_t c hk
    refine zr_aload_n h dX11_feed_18 0 rfl rfl ?_
    refine zr_getR h zfo_X11_10 lC_0 rfl dX11_feed_19 ?_
    refine zr_iload_n h dX11_feed_22 1 rfl rfl ?_
    refine zr_callVv h lC_1 zcw_X11_103 (by decide) (c_X8_put E M x1 _ (zOk_bind hk)) rfl rfl (Nat.le_of_ble_eq_true rfl) dX11_feed_23 (fun M_23 hk => ?_)
    refine zr_aload_n h dX11_feed_26 0 rfl rfl ?_
    refine zr_getR h zfo_X11_10 lC_0 rfl dX11_feed_27 ?_
    refine zr_iload_n h dX11_feed_30 2 rfl rfl ?_
    refine zr_callVv h lC_1 zcw_X11_103 (by decide) (c_X8_put E M_23 x2 _ (zOk_bind hk)) rfl rfl (Nat.le_of_ble_eq_true rfl) dX11_feed_31 (fun M_31 hk => ?_)
    refine zr_aload_n h dX11_feed_34 0 rfl rfl ?_
    refine zr_getR h zfo_X11_10 lC_0 rfl dX11_feed_35 ?_
    refine zr_iload_n h dX11_feed_38 3 rfl rfl ?_
    refine zr_callVv h lC_1 zcw_X11_103 (by decide) (c_X8_put E M_31 x3 _ (zOk_bind hk)) rfl rfl (Nat.le_of_ble_eq_true rfl) dX11_feed_39 (fun M_39 hk => ?_)
    refine zr_aload_n h dX11_feed_42 0 rfl rfl ?_
    refine zr_getR h zfo_X11_10 lC_0 rfl dX11_feed_43 ?_
    refine zr_iload h dX11_feed_46 4 rfl ?_
    refine zr_callVv h lC_1 zcw_X11_103 (by decide) (c_X8_put E M_39 x4 _ (zOk_bind hk)) rfl rfl (Nat.le_of_ble_eq_true rfl) dX11_feed_48 (fun M_48 hk => ?_)
    refine zr_aload_n h dX11_feed_51 0 rfl rfl ?_
    refine zr_getR h zfo_X11_10 lC_0 rfl dX11_feed_52 ?_
    refine zr_iload h dX11_feed_55 5 rfl ?_
    refine zr_callVv h lC_1 zcw_X11_103 (by decide) (c_X8_put E M_48 x5 _ (zOk_bind hk)) rfl rfl (Nat.le_of_ble_eq_true rfl) dX11_feed_57 (fun M_57 hk => ?_)
    refine zr_aload_n h dX11_feed_60 0 rfl rfl ?_
    refine zr_getR h zfo_X11_10 lC_0 rfl dX11_feed_61 ?_
    refine zr_callVp h lC_1 zcw_X11_99 (by decide) (c_X8_used E M_57 _ (zOk_bind hk)) rfl rfl (Nat.le_of_ble_eq_true rfl) dX11_feed_64 (fun r_64 hk => ?_)
    have hk := zOk_some hk
    exact zr_iret h dX11_feed_67 ⟨_, rfl, hk⟩
  · have hk := zOk_f c hk
    refine zr_iconst (v := (zI (-1))) h dX11_feed_16 rfl ?_
    have hk := zOk_some hk
    exact zr_iret h dX11_feed_17 ⟨_, rfl, hk⟩
theorem dX11_end_0 : decode cX11_end 0 = .ok (.aload_n 0, 1) := by decide +kernel
theorem dX11_end_1 : decode cX11_end 1 = .ok (.getfield 10, 3) := by decide +kernel
theorem dX11_end_4 : decode cX11_end 4 = .ok (.iload_n 1, 1) := by decide +kernel
theorem dX11_end_5 : decode cX11_end 5 = .ok (.invokevirtual 107, 3) := by decide +kernel
theorem dX11_end_8 : decode cX11_end 8 = .ok (.ifCond .eq 7, 3) := by decide +kernel
theorem dX11_end_11 : decode cX11_end 11 = .ok (.iload_n 1, 1) := by decide +kernel
theorem dX11_end_12 : decode cX11_end 12 = .ok (.goto 4, 3) := by decide +kernel
theorem dX11_end_15 : decode cX11_end 15 = .ok (.iconst (-1), 1) := by decide +kernel
theorem dX11_end_16 : decode cX11_end 16 = .ok (.ireturn, 1) := by decide +kernel
noncomputable def f_X11_end (M : ZMem) (x1 : Int32) : Option (ZMem × Int32) := zbind (f_X8_cutTo M x1) (fun r_5 => if r_5.2 = (zI 0) then some (r_5.1, (zI (-1))) else some (r_5.1, x1))
set_option maxRecDepth 100000 in
set_option maxHeartbeats 4000000 in
theorem c_X11_end (E : ZEv) (M : ZMem) (x1 : Int32) (K : ZMem × Int32 → Prop) (hk : zOk (f_X11_end M x1) K) : zCon lyC E yX11_end cX11_end 2 (some .int) 1 [zrf E 0, .int x1] M (zRm K) := by
  refine zcon_of (L0 := [(0, zrf E 0), (1, .int x1)]) (by decide) rfl (Nat.le_of_ble_eq_true rfl) (fun G h => ?_)
  have h : zRu lyC E G (zRm K) cX11_end RX11 2 (some .int) 1 := h
  unfold f_X11_end at hk
  refine zr_aload_n h dX11_end_0 0 rfl rfl ?_
  refine zr_getR h zfo_X11_10 lC_0 rfl dX11_end_1 ?_
  refine zr_iload_n h dX11_end_4 1 rfl rfl ?_
  refine zr_callVm h lC_1 zcw_X11_107 (by decide) (c_X8_cutTo E M x1 _ (zOk_bind hk)) rfl rfl (Nat.le_of_ble_eq_true rfl) dX11_end_5 (fun r_5 hk => ?_)
  refine zr_if_eq (tgt := 15) h dX11_end_8 (by decide) (fun c => ?_) (fun c => ?_)
  · have hk := zOk_t c hk
    refine zr_iconst (v := (zI (-1))) h dX11_end_15 rfl ?_
    have hk := zOk_some hk
    exact zr_iret h dX11_end_16 ⟨_, rfl, hk⟩
  · have hk := zOk_f c hk
    refine zr_iload_n h dX11_end_11 1 rfl rfl ?_
    refine zr_goto (tgt := 16) h dX11_end_12 (by decide) ?_
    have hk := zOk_some hk
    exact zr_iret h dX11_end_16 ⟨_, rfl, hk⟩
theorem dX11_forms_0 : decode cX11_forms 0 = .ok (.aload_n 0, 1) := by decide +kernel
theorem dX11_forms_1 : decode cX11_forms 1 = .ok (.getfield 19, 3) := by decide +kernel
theorem dX11_forms_4 : decode cX11_forms 4 = .ok (.aload_n 0, 1) := by decide +kernel
theorem dX11_forms_5 : decode cX11_forms 5 = .ok (.getfield 10, 3) := by decide +kernel
theorem dX11_forms_8 : decode cX11_forms 8 = .ok (.invokevirtual 111, 3) := by decide +kernel
theorem dX11_forms_11 : decode cX11_forms 11 = .ok (.istore_n 1, 1) := by decide +kernel
theorem dX11_forms_12 : decode cX11_forms 12 = .ok (.aload_n 0, 1) := by decide +kernel
theorem dX11_forms_13 : decode cX11_forms 13 = .ok (.getfield 10, 3) := by decide +kernel
theorem dX11_forms_16 : decode cX11_forms 16 = .ok (.iconst 0, 1) := by decide +kernel
theorem dX11_forms_17 : decode cX11_forms 17 = .ok (.invokevirtual 107, 3) := by decide +kernel
theorem dX11_forms_20 : decode cX11_forms 20 = .ok (.pop, 1) := by decide +kernel
theorem dX11_forms_21 : decode cX11_forms 21 = .ok (.iload_n 1, 1) := by decide +kernel
theorem dX11_forms_22 : decode cX11_forms 22 = .ok (.ifCond .lt 22, 3) := by decide +kernel
theorem dX11_forms_25 : decode cX11_forms 25 = .ok (.aload_n 0, 1) := by decide +kernel
theorem dX11_forms_26 : decode cX11_forms 26 = .ok (.getfield 26, 3) := by decide +kernel
theorem dX11_forms_29 : decode cX11_forms 29 = .ok (.invokevirtual 115, 3) := by decide +kernel
theorem dX11_forms_32 : decode cX11_forms 32 = .ok (.aload_n 0, 1) := by decide +kernel
theorem dX11_forms_33 : decode cX11_forms 33 = .ok (.getfield 40, 3) := by decide +kernel
theorem dX11_forms_36 : decode cX11_forms 36 = .ok (.invokevirtual 118, 3) := by decide +kernel
theorem dX11_forms_39 : decode cX11_forms 39 = .ok (.aload_n 0, 1) := by decide +kernel
theorem dX11_forms_40 : decode cX11_forms 40 = .ok (.iconst 1, 1) := by decide +kernel
theorem dX11_forms_41 : decode cX11_forms 41 = .ok (.putfield 95, 3) := by decide +kernel
theorem dX11_forms_44 : decode cX11_forms 44 = .ok (.iload_n 1, 1) := by decide +kernel
theorem dX11_forms_45 : decode cX11_forms 45 = .ok (.ireturn, 1) := by decide +kernel
noncomputable def f_X11_forms (M : ZMem) : Option (ZMem × Int32) := zbind (f_X0_takeFrom M) (fun r_8 => zbind (f_X8_cutTo r_8.1 (zI 0)) (fun r_17 => if r_8.2 < (zI 0) then some (r_17.1, r_8.2) else zbind (f_X7_startAnew r_17.1) (fun M_29 => zbind (f_X1_startAnew M_29) (fun M_36 => zbnd (zstI M_36 0 13 (zI 1)) (fun M_41 => some (M_41, r_8.2))))))
set_option maxRecDepth 100000 in
set_option maxHeartbeats 4000000 in
theorem c_X11_forms (E : ZEv) (M : ZMem) (K : ZMem × Int32 → Prop) (hk : zOk (f_X11_forms M) K) : zCon lyC E yX11_forms cX11_forms 2 (some .int) 4 [zrf E 0] M (zRm K) := by
  refine zcon_of (L0 := [(0, zrf E 0)]) (by decide) rfl (Nat.le_of_ble_eq_true rfl) (fun G h => ?_)
  have h : zRu lyC E G (zRm K) cX11_forms RX11 2 (some .int) 4 := h
  unfold f_X11_forms at hk
  refine zr_aload_n h dX11_forms_0 0 rfl rfl ?_
  refine zr_getR h zfo_X11_19 lC_0 rfl dX11_forms_1 ?_
  refine zr_aload_n h dX11_forms_4 0 rfl rfl ?_
  refine zr_getR h zfo_X11_10 lC_0 rfl dX11_forms_5 ?_
  refine zr_callVm h lC_3 zcw_X11_111 (by decide) (c_X0_takeFrom E M _ (zOk_bind hk)) rfl rfl (Nat.le_of_ble_eq_true rfl) dX11_forms_8 (fun r_8 hk => ?_)
  refine zr_istore_n (L' := [(0, zrf E 0), (1, .int r_8.2)]) h [1, 0] dX11_forms_11 rfl (by decide) rfl ?_
  refine zr_aload_n h dX11_forms_12 0 rfl rfl ?_
  refine zr_getR h zfo_X11_10 lC_0 rfl dX11_forms_13 ?_
  refine zr_iconst (v := (zI 0)) h dX11_forms_16 rfl ?_
  refine zr_callVm h lC_1 zcw_X11_107 (by decide) (c_X8_cutTo E r_8.1 (zI 0) _ (zOk_bind hk)) rfl rfl (Nat.le_of_ble_eq_true rfl) dX11_forms_17 (fun r_17 hk => ?_)
  refine zr_pop h dX11_forms_20 rfl ?_
  refine zr_iload_n h dX11_forms_21 1 rfl rfl ?_
  refine zr_if_lt (tgt := 44) h dX11_forms_22 (by decide) (fun c => ?_) (fun c => ?_)
  · have hk := zOk_t c hk
    refine zr_iload_n h dX11_forms_44 1 rfl rfl ?_
    have hk := zOk_some hk
    exact zr_iret h dX11_forms_45 ⟨_, rfl, hk⟩
  · have hk := zOk_f c hk
    refine zr_aload_n h dX11_forms_25 0 rfl rfl ?_
    refine zr_getR h zfo_X11_26 lC_0 rfl dX11_forms_26 ?_
    refine zr_callVv h lC_11 zcw_X11_115 (by decide) (c_X7_startAnew E r_17.1 _ (zOk_bind hk)) rfl rfl (Nat.le_of_ble_eq_true rfl) dX11_forms_29 (fun M_29 hk => ?_)
    refine zr_aload_n h dX11_forms_32 0 rfl rfl ?_
    refine zr_getR h zfo_X11_40 lC_0 rfl dX11_forms_33 ?_
    refine zr_callVv h lC_20 zcw_X11_118 (by decide) (c_X1_startAnew E M_29 _ (zOk_bind hk)) rfl rfl (Nat.le_of_ble_eq_true rfl) dX11_forms_36 (fun M_36 hk => ?_)
    refine zr_aload_n h dX11_forms_39 0 rfl rfl ?_
    refine zr_iconst (v := (zI 1)) h dX11_forms_40 rfl ?_
    refine zr_putZ h zfp_X11_95 lC_0 rfl (by decide) dX11_forms_41 ?_
    refine zr_mem (fun M_41 eM => ?_)
    have hk := zOk_bnd eM hk
    refine zr_iload_n h dX11_forms_44 1 rfl rfl ?_
    have hk := zOk_some hk
    exact zr_iret h dX11_forms_45 ⟨_, rfl, hk⟩
theorem dX11_stone_0 : decode cX11_stone 0 = .ok (.aload_n 0, 1) := by decide +kernel
theorem dX11_stone_1 : decode cX11_stone 1 = .ok (.getfield 26, 3) := by decide +kernel
theorem dX11_stone_4 : decode cX11_stone 4 = .ok (.invokevirtual 119, 3) := by decide +kernel
theorem dX11_stone_7 : decode cX11_stone 7 = .ok (.ifCond .eq 5, 3) := by decide +kernel
theorem dX11_stone_10 : decode cX11_stone 10 = .ok (.iconst (-1), 1) := by decide +kernel
theorem dX11_stone_11 : decode cX11_stone 11 = .ok (.ireturn, 1) := by decide +kernel
theorem dX11_stone_12 : decode cX11_stone 12 = .ok (.aload_n 0, 1) := by decide +kernel
theorem dX11_stone_13 : decode cX11_stone 13 = .ok (.getfield 26, 3) := by decide +kernel
theorem dX11_stone_16 : decode cX11_stone 16 = .ok (.aload_n 0, 1) := by decide +kernel
theorem dX11_stone_17 : decode cX11_stone 17 = .ok (.getfield 10, 3) := by decide +kernel
theorem dX11_stone_20 : decode cX11_stone 20 = .ok (.aload_n 0, 1) := by decide +kernel
theorem dX11_stone_21 : decode cX11_stone 21 = .ok (.getfield 19, 3) := by decide +kernel
theorem dX11_stone_24 : decode cX11_stone 24 = .ok (.invokevirtual 123, 3) := by decide +kernel
theorem dX11_stone_27 : decode cX11_stone 27 = .ok (.invokevirtual 126, 3) := by decide +kernel
theorem dX11_stone_30 : decode cX11_stone 30 = .ok (.istore_n 1, 1) := by decide +kernel
theorem dX11_stone_31 : decode cX11_stone 31 = .ok (.aload_n 0, 1) := by decide +kernel
theorem dX11_stone_32 : decode cX11_stone 32 = .ok (.getfield 10, 3) := by decide +kernel
theorem dX11_stone_35 : decode cX11_stone 35 = .ok (.iconst 0, 1) := by decide +kernel
theorem dX11_stone_36 : decode cX11_stone 36 = .ok (.invokevirtual 107, 3) := by decide +kernel
theorem dX11_stone_39 : decode cX11_stone 39 = .ok (.pop, 1) := by decide +kernel
theorem dX11_stone_40 : decode cX11_stone 40 = .ok (.iload_n 1, 1) := by decide +kernel
theorem dX11_stone_41 : decode cX11_stone 41 = .ok (.ifCond .lt 15, 3) := by decide +kernel
theorem dX11_stone_44 : decode cX11_stone 44 = .ok (.aload_n 0, 1) := by decide +kernel
theorem dX11_stone_45 : decode cX11_stone 45 = .ok (.getfield 40, 3) := by decide +kernel
theorem dX11_stone_48 : decode cX11_stone 48 = .ok (.invokevirtual 129, 3) := by decide +kernel
theorem dX11_stone_51 : decode cX11_stone 51 = .ok (.aload_n 0, 1) := by decide +kernel
theorem dX11_stone_52 : decode cX11_stone 52 = .ok (.iconst 1, 1) := by decide +kernel
theorem dX11_stone_53 : decode cX11_stone 53 = .ok (.putfield 95, 3) := by decide +kernel
theorem dX11_stone_56 : decode cX11_stone 56 = .ok (.iload_n 1, 1) := by decide +kernel
theorem dX11_stone_57 : decode cX11_stone 57 = .ok (.ireturn, 1) := by decide +kernel
noncomputable def f_X11_stone (M : ZMem) : Option (ZMem × Int32) := zbind (f_X7_isFull M) (fun r_4 => if r_4 = (zI 0) then zbind (f_X0_told M) (fun r_24 => zbind (f_X7_takeFrom M r_24) (fun r_27 => zbind (f_X8_cutTo r_27.1 (zI 0)) (fun r_36 => if r_27.2 < (zI 0) then some (r_36.1, r_27.2) else zbind (f_X1_forgetActs r_36.1) (fun M_48 => zbnd (zstI M_48 0 13 (zI 1)) (fun M_53 => some (M_53, r_27.2)))))) else some (M, (zI (-1))))
set_option maxRecDepth 100000 in
set_option maxHeartbeats 4000000 in
theorem c_X11_stone (E : ZEv) (M : ZMem) (K : ZMem × Int32 → Prop) (hk : zOk (f_X11_stone M) K) : zCon lyC E yX11_stone cX11_stone 2 (some .int) 3 [zrf E 0] M (zRm K) := by
  refine zcon_of (L0 := [(0, zrf E 0)]) (by decide) rfl (Nat.le_of_ble_eq_true rfl) (fun G h => ?_)
  have h : zRu lyC E G (zRm K) cX11_stone RX11 2 (some .int) 3 := h
  unfold f_X11_stone at hk
  refine zr_aload_n h dX11_stone_0 0 rfl rfl ?_
  refine zr_getR h zfo_X11_26 lC_0 rfl dX11_stone_1 ?_
  refine zr_callVp h lC_11 zcw_X11_119 (by decide) (c_X7_isFull E M _ (zOk_bind hk)) rfl rfl (Nat.le_of_ble_eq_true rfl) dX11_stone_4 (fun r_4 hk => ?_)
  refine zr_if_eq (tgt := 12) h dX11_stone_7 (by decide) (fun c => ?_) (fun c => ?_)
  · have hk := zOk_t c hk
    refine zr_aload_n h dX11_stone_12 0 rfl rfl ?_
    refine zr_getR h zfo_X11_26 lC_0 rfl dX11_stone_13 ?_
    refine zr_aload_n h dX11_stone_16 0 rfl rfl ?_
    refine zr_getR h zfo_X11_10 lC_0 rfl dX11_stone_17 ?_
    refine zr_aload_n h dX11_stone_20 0 rfl rfl ?_
    refine zr_getR h zfo_X11_19 lC_0 rfl dX11_stone_21 ?_
    refine zr_callVp h lC_3 zcw_X11_123 (by decide) (c_X0_told E M _ (zOk_bind hk)) rfl rfl (Nat.le_of_ble_eq_true rfl) dX11_stone_24 (fun r_24 hk => ?_)
    refine zr_callVm h lC_11 zcw_X11_126 (by decide) (c_X7_takeFrom E M r_24 _ (zOk_bind hk)) rfl rfl (Nat.le_of_ble_eq_true rfl) dX11_stone_27 (fun r_27 hk => ?_)
    refine zr_istore_n (L' := [(0, zrf E 0), (1, .int r_27.2)]) h [1, 0] dX11_stone_30 rfl (by decide) rfl ?_
    refine zr_aload_n h dX11_stone_31 0 rfl rfl ?_
    refine zr_getR h zfo_X11_10 lC_0 rfl dX11_stone_32 ?_
    refine zr_iconst (v := (zI 0)) h dX11_stone_35 rfl ?_
    refine zr_callVm h lC_1 zcw_X11_107 (by decide) (c_X8_cutTo E r_27.1 (zI 0) _ (zOk_bind hk)) rfl rfl (Nat.le_of_ble_eq_true rfl) dX11_stone_36 (fun r_36 hk => ?_)
    refine zr_pop h dX11_stone_39 rfl ?_
    refine zr_iload_n h dX11_stone_40 1 rfl rfl ?_
    refine zr_if_lt (tgt := 56) h dX11_stone_41 (by decide) (fun c => ?_) (fun c => ?_)
    · have hk := zOk_t c hk
      refine zr_iload_n h dX11_stone_56 1 rfl rfl ?_
      have hk := zOk_some hk
      exact zr_iret h dX11_stone_57 ⟨_, rfl, hk⟩
    · have hk := zOk_f c hk
      refine zr_aload_n h dX11_stone_44 0 rfl rfl ?_
      refine zr_getR h zfo_X11_40 lC_0 rfl dX11_stone_45 ?_
      refine zr_callVv h lC_20 zcw_X11_129 (by decide) (c_X1_forgetActs E r_36.1 _ (zOk_bind hk)) rfl rfl (Nat.le_of_ble_eq_true rfl) dX11_stone_48 (fun M_48 hk => ?_)
      refine zr_aload_n h dX11_stone_51 0 rfl rfl ?_
      refine zr_iconst (v := (zI 1)) h dX11_stone_52 rfl ?_
      refine zr_putZ h zfp_X11_95 lC_0 rfl (by decide) dX11_stone_53 ?_
      refine zr_mem (fun M_53 eM => ?_)
      have hk := zOk_bnd eM hk
      refine zr_iload_n h dX11_stone_56 1 rfl rfl ?_
      have hk := zOk_some hk
      exact zr_iret h dX11_stone_57 ⟨_, rfl, hk⟩
  · have hk := zOk_f c hk
    refine zr_iconst (v := (zI (-1))) h dX11_stone_10 rfl ?_
    have hk := zOk_some hk
    exact zr_iret h dX11_stone_11 ⟨_, rfl, hk⟩
theorem dX11_name_0 : decode cX11_name 0 = .ok (.aload_n 0, 1) := by decide +kernel
theorem dX11_name_1 : decode cX11_name 1 = .ok (.getfield 33, 3) := by decide +kernel
theorem dX11_name_4 : decode cX11_name 4 = .ok (.invokevirtual 132, 3) := by decide +kernel
theorem dX11_name_7 : decode cX11_name 7 = .ok (.ifCond .eq 5, 3) := by decide +kernel
theorem dX11_name_10 : decode cX11_name 10 = .ok (.iconst (-1), 1) := by decide +kernel
theorem dX11_name_11 : decode cX11_name 11 = .ok (.ireturn, 1) := by decide +kernel
theorem dX11_name_12 : decode cX11_name 12 = .ok (.aload_n 0, 1) := by decide +kernel
theorem dX11_name_13 : decode cX11_name 13 = .ok (.getfield 33, 3) := by decide +kernel
theorem dX11_name_16 : decode cX11_name 16 = .ok (.aload_n 0, 1) := by decide +kernel
theorem dX11_name_17 : decode cX11_name 17 = .ok (.getfield 10, 3) := by decide +kernel
theorem dX11_name_20 : decode cX11_name 20 = .ok (.invokevirtual 133, 3) := by decide +kernel
theorem dX11_name_23 : decode cX11_name 23 = .ok (.istore_n 1, 1) := by decide +kernel
theorem dX11_name_24 : decode cX11_name 24 = .ok (.aload_n 0, 1) := by decide +kernel
theorem dX11_name_25 : decode cX11_name 25 = .ok (.getfield 10, 3) := by decide +kernel
theorem dX11_name_28 : decode cX11_name 28 = .ok (.iconst 0, 1) := by decide +kernel
theorem dX11_name_29 : decode cX11_name 29 = .ok (.invokevirtual 107, 3) := by decide +kernel
theorem dX11_name_32 : decode cX11_name 32 = .ok (.pop, 1) := by decide +kernel
theorem dX11_name_33 : decode cX11_name 33 = .ok (.iload_n 1, 1) := by decide +kernel
theorem dX11_name_34 : decode cX11_name 34 = .ok (.ifCond .lt 8, 3) := by decide +kernel
theorem dX11_name_37 : decode cX11_name 37 = .ok (.aload_n 0, 1) := by decide +kernel
theorem dX11_name_38 : decode cX11_name 38 = .ok (.iconst 1, 1) := by decide +kernel
theorem dX11_name_39 : decode cX11_name 39 = .ok (.putfield 134, 3) := by decide +kernel
theorem dX11_name_42 : decode cX11_name 42 = .ok (.iload_n 1, 1) := by decide +kernel
theorem dX11_name_43 : decode cX11_name 43 = .ok (.ireturn, 1) := by decide +kernel
noncomputable def f_X11_name (M : ZMem) : Option (ZMem × Int32) := zbind (f_X4_isFull M) (fun r_4 => if r_4 = (zI 0) then zbind (f_X4_takeFrom M) (fun r_20 => zbind (f_X8_cutTo r_20.1 (zI 0)) (fun r_29 => if r_20.2 < (zI 0) then some (r_29.1, r_20.2) else zbnd (zstI r_29.1 0 14 (zI 1)) (fun M_39 => some (M_39, r_20.2)))) else some (M, (zI (-1))))
set_option maxRecDepth 100000 in
set_option maxHeartbeats 4000000 in
theorem c_X11_name (E : ZEv) (M : ZMem) (K : ZMem × Int32 → Prop) (hk : zOk (f_X11_name M) K) : zCon lyC E yX11_name cX11_name 2 (some .int) 6 [zrf E 0] M (zRm K) := by
  refine zcon_of (L0 := [(0, zrf E 0)]) (by decide) rfl (Nat.le_of_ble_eq_true rfl) (fun G h => ?_)
  have h : zRu lyC E G (zRm K) cX11_name RX11 2 (some .int) 6 := h
  unfold f_X11_name at hk
  refine zr_aload_n h dX11_name_0 0 rfl rfl ?_
  refine zr_getR h zfo_X11_33 lC_0 rfl dX11_name_1 ?_
  refine zr_callVp h lC_17 zcw_X11_132 (by decide) (c_X4_isFull E M _ (zOk_bind hk)) rfl rfl (Nat.le_of_ble_eq_true rfl) dX11_name_4 (fun r_4 hk => ?_)
  refine zr_if_eq (tgt := 12) h dX11_name_7 (by decide) (fun c => ?_) (fun c => ?_)
  · have hk := zOk_t c hk
    refine zr_aload_n h dX11_name_12 0 rfl rfl ?_
    refine zr_getR h zfo_X11_33 lC_0 rfl dX11_name_13 ?_
    refine zr_aload_n h dX11_name_16 0 rfl rfl ?_
    refine zr_getR h zfo_X11_10 lC_0 rfl dX11_name_17 ?_
    refine zr_callVm h lC_17 zcw_X11_133 (by decide) (c_X4_takeFrom E M _ (zOk_bind hk)) rfl rfl (Nat.le_of_ble_eq_true rfl) dX11_name_20 (fun r_20 hk => ?_)
    refine zr_istore_n (L' := [(0, zrf E 0), (1, .int r_20.2)]) h [1, 0] dX11_name_23 rfl (by decide) rfl ?_
    refine zr_aload_n h dX11_name_24 0 rfl rfl ?_
    refine zr_getR h zfo_X11_10 lC_0 rfl dX11_name_25 ?_
    refine zr_iconst (v := (zI 0)) h dX11_name_28 rfl ?_
    refine zr_callVm h lC_1 zcw_X11_107 (by decide) (c_X8_cutTo E r_20.1 (zI 0) _ (zOk_bind hk)) rfl rfl (Nat.le_of_ble_eq_true rfl) dX11_name_29 (fun r_29 hk => ?_)
    refine zr_pop h dX11_name_32 rfl ?_
    refine zr_iload_n h dX11_name_33 1 rfl rfl ?_
    refine zr_if_lt (tgt := 42) h dX11_name_34 (by decide) (fun c => ?_) (fun c => ?_)
    · have hk := zOk_t c hk
      refine zr_iload_n h dX11_name_42 1 rfl rfl ?_
      have hk := zOk_some hk
      exact zr_iret h dX11_name_43 ⟨_, rfl, hk⟩
    · have hk := zOk_f c hk
      refine zr_aload_n h dX11_name_37 0 rfl rfl ?_
      refine zr_iconst (v := (zI 1)) h dX11_name_38 rfl ?_
      refine zr_putZ h zfp_X11_134 lC_0 rfl (by decide) dX11_name_39 ?_
      refine zr_mem (fun M_39 eM => ?_)
      have hk := zOk_bnd eM hk
      refine zr_iload_n h dX11_name_42 1 rfl rfl ?_
      have hk := zOk_some hk
      exact zr_iret h dX11_name_43 ⟨_, rfl, hk⟩
  · have hk := zOk_f c hk
    refine zr_iconst (v := (zI (-1))) h dX11_name_10 rfl ?_
    have hk := zOk_some hk
    exact zr_iret h dX11_name_11 ⟨_, rfl, hk⟩
theorem dX11_unlike_0 : decode cX11_unlike 0 = .ok (.aload_n 0, 1) := by decide +kernel
theorem dX11_unlike_1 : decode cX11_unlike 1 = .ok (.getfield 19, 3) := by decide +kernel
theorem dX11_unlike_4 : decode cX11_unlike 4 = .ok (.iload_n 1, 1) := by decide +kernel
theorem dX11_unlike_5 : decode cX11_unlike 5 = .ok (.iload_n 2, 1) := by decide +kernel
theorem dX11_unlike_6 : decode cX11_unlike 6 = .ok (.invokevirtual 137, 3) := by decide +kernel
theorem dX11_unlike_9 : decode cX11_unlike 9 = .ok (.ireturn, 1) := by decide +kernel
noncomputable def f_X11_unlike (M : ZMem) (x1 : Int32) (x2 : Int32) : Option Int32 := zbind (f_X0_unlikeOf M x1 x2) (fun r_6 => some r_6)
set_option maxRecDepth 100000 in
set_option maxHeartbeats 4000000 in
theorem c_X11_unlike (E : ZEv) (M : ZMem) (x1 : Int32) (x2 : Int32) (K : Int32 → Prop) (hk : zOk (f_X11_unlike M x1 x2) K) : zCon lyC E yX11_unlike cX11_unlike 3 (some .int) 2 [zrf E 0, .int x1, .int x2] M (zRp M K) := by
  refine zcon_of (L0 := [(0, zrf E 0), (1, .int x1), (2, .int x2)]) (by decide) rfl (Nat.le_of_ble_eq_true rfl) (fun G h => ?_)
  have h : zRu lyC E G (zRp M K) cX11_unlike RX11 3 (some .int) 2 := h
  unfold f_X11_unlike at hk
  refine zr_aload_n h dX11_unlike_0 0 rfl rfl ?_
  refine zr_getR h zfo_X11_19 lC_0 rfl dX11_unlike_1 ?_
  refine zr_iload_n h dX11_unlike_4 1 rfl rfl ?_
  refine zr_iload_n h dX11_unlike_5 2 rfl rfl ?_
  refine zr_callVp h lC_3 zcw_X11_137 (by decide) (c_X0_unlikeOf E M x1 x2 _ (zOk_bind hk)) rfl rfl (Nat.le_of_ble_eq_true rfl) dX11_unlike_6 (fun r_6 hk => ?_)
  have hk := zOk_some hk
  exact zr_iret h dX11_unlike_9 ⟨rfl, _, rfl, hk⟩
theorem dX11_settleScript_0 : decode cX11_settleScript 0 = .ok (.aload_n 0, 1) := by decide +kernel
theorem dX11_settleScript_1 : decode cX11_settleScript 1 = .ok (.getfield 19, 3) := by decide +kernel
theorem dX11_settleScript_4 : decode cX11_settleScript 4 = .ok (.aload_n 0, 1) := by decide +kernel
theorem dX11_settleScript_5 : decode cX11_settleScript 5 = .ok (.getfield 40, 3) := by decide +kernel
theorem dX11_settleScript_8 : decode cX11_settleScript 8 = .ok (.invokevirtual 342, 3) := by decide +kernel
theorem dX11_settleScript_11 : decode cX11_settleScript 11 = .ok (.aload_n 0, 1) := by decide +kernel
theorem dX11_settleScript_12 : decode cX11_settleScript 12 = .ok (.getfield 47, 3) := by decide +kernel
theorem dX11_settleScript_15 : decode cX11_settleScript 15 = .ok (.aload_n 0, 1) := by decide +kernel
theorem dX11_settleScript_16 : decode cX11_settleScript 16 = .ok (.getfield 26, 3) := by decide +kernel
theorem dX11_settleScript_19 : decode cX11_settleScript 19 = .ok (.aload_n 0, 1) := by decide +kernel
theorem dX11_settleScript_20 : decode cX11_settleScript 20 = .ok (.getfield 19, 3) := by decide +kernel
theorem dX11_settleScript_23 : decode cX11_settleScript 23 = .ok (.aload_n 0, 1) := by decide +kernel
theorem dX11_settleScript_24 : decode cX11_settleScript 24 = .ok (.getfield 40, 3) := by decide +kernel
theorem dX11_settleScript_27 : decode cX11_settleScript 27 = .ok (.iconst 1, 1) := by decide +kernel
theorem dX11_settleScript_28 : decode cX11_settleScript 28 = .ok (.invokevirtual 294, 3) := by decide +kernel
theorem dX11_settleScript_31 : decode cX11_settleScript 31 = .ok (.invokevirtual 346, 3) := by decide +kernel
theorem dX11_settleScript_34 : decode cX11_settleScript 34 = .ok (.aload_n 0, 1) := by decide +kernel
theorem dX11_settleScript_35 : decode cX11_settleScript 35 = .ok (.getfield 54, 3) := by decide +kernel
theorem dX11_settleScript_38 : decode cX11_settleScript 38 = .ok (.aload_n 0, 1) := by decide +kernel
theorem dX11_settleScript_39 : decode cX11_settleScript 39 = .ok (.getfield 47, 3) := by decide +kernel
theorem dX11_settleScript_42 : decode cX11_settleScript 42 = .ok (.aload_n 0, 1) := by decide +kernel
theorem dX11_settleScript_43 : decode cX11_settleScript 43 = .ok (.getfield 40, 3) := by decide +kernel
theorem dX11_settleScript_46 : decode cX11_settleScript 46 = .ok (.iconst 2, 1) := by decide +kernel
theorem dX11_settleScript_47 : decode cX11_settleScript 47 = .ok (.invokevirtual 294, 3) := by decide +kernel
theorem dX11_settleScript_50 : decode cX11_settleScript 50 = .ok (.invokevirtual 349, 3) := by decide +kernel
theorem dX11_settleScript_53 : decode cX11_settleScript 53 = .ok (.aload_n 0, 1) := by decide +kernel
theorem dX11_settleScript_54 : decode cX11_settleScript 54 = .ok (.getfield 63, 3) := by decide +kernel
theorem dX11_settleScript_57 : decode cX11_settleScript 57 = .ok (.invokevirtual 352, 3) := by decide +kernel
theorem dX11_settleScript_60 : decode cX11_settleScript 60 = .ok (.aload_n 0, 1) := by decide +kernel
theorem dX11_settleScript_61 : decode cX11_settleScript 61 = .ok (.getfield 67, 3) := by decide +kernel
theorem dX11_settleScript_64 : decode cX11_settleScript 64 = .ok (.invokevirtual 352, 3) := by decide +kernel
theorem dX11_settleScript_67 : decode cX11_settleScript 67 = .ok (.aload_n 0, 1) := by decide +kernel
theorem dX11_settleScript_68 : decode cX11_settleScript 68 = .ok (.getfield 54, 3) := by decide +kernel
theorem dX11_settleScript_71 : decode cX11_settleScript 71 = .ok (.aload_n 0, 1) := by decide +kernel
theorem dX11_settleScript_72 : decode cX11_settleScript 72 = .ok (.getfield 63, 3) := by decide +kernel
theorem dX11_settleScript_75 : decode cX11_settleScript 75 = .ok (.aload_n 0, 1) := by decide +kernel
theorem dX11_settleScript_76 : decode cX11_settleScript 76 = .ok (.getfield 67, 3) := by decide +kernel
theorem dX11_settleScript_79 : decode cX11_settleScript 79 = .ok (.invokevirtual 355, 3) := by decide +kernel
theorem dX11_settleScript_82 : decode cX11_settleScript 82 = .ok (.aload_n 0, 1) := by decide +kernel
theorem dX11_settleScript_83 : decode cX11_settleScript 83 = .ok (.iconst 0, 1) := by decide +kernel
theorem dX11_settleScript_84 : decode cX11_settleScript 84 = .ok (.putfield 95, 3) := by decide +kernel
theorem dX11_settleScript_87 : decode cX11_settleScript 87 = .ok (.aload_n 0, 1) := by decide +kernel
theorem dX11_settleScript_88 : decode cX11_settleScript 88 = .ok (.iconst 1, 1) := by decide +kernel
theorem dX11_settleScript_89 : decode cX11_settleScript 89 = .ok (.putfield 134, 3) := by decide +kernel
theorem dX11_settleScript_92 : decode cX11_settleScript 92 = .ok (.return_, 1) := by decide +kernel
noncomputable def f_X11_settleScript (M : ZMem) : Option ZMem := zbind (f_X0_settleSigns M) (fun M_8 => zbind (f_X1_settingOf M_8 (zI 1)) (fun r_28 => zbind (f_X6_settle M_8 r_28) (fun M_31 => zbind (f_X1_settingOf M_31 (zI 2)) (fun r_47 => zbind (f_X2_settle M_31 r_47) (fun M_50 => zbind (f_X5_forgetWords 41 M_50) (fun M_57 => zbind (f_X5_forgetWords 45 M_57) (fun M_64 => zbind (f_X2_compareWords M_64) (fun M_79 => zbnd (zstI M_79 0 13 (zI 0)) (fun M_84 => zbnd (zstI M_84 0 14 (zI 1)) (fun M_89 => some M_89))))))))))
set_option maxRecDepth 100000 in
set_option maxHeartbeats 4000000 in
theorem c_X11_settleScript (E : ZEv) (M : ZMem) (K : ZMem → Prop) (hk : zOk (f_X11_settleScript M) K) : zCon lyC E yX11_settleScript cX11_settleScript 1 none 5 [zrf E 0] M (zRv K) := by
  refine zcon_of (L0 := [(0, zrf E 0)]) (by decide) rfl (Nat.le_of_ble_eq_true rfl) (fun G h => ?_)
  have h : zRu lyC E G (zRv K) cX11_settleScript RX11 1 none 5 := h
  unfold f_X11_settleScript at hk
  refine zr_aload_n h dX11_settleScript_0 0 rfl rfl ?_
  refine zr_getR h zfo_X11_19 lC_0 rfl dX11_settleScript_1 ?_
  refine zr_aload_n h dX11_settleScript_4 0 rfl rfl ?_
  refine zr_getR h zfo_X11_40 lC_0 rfl dX11_settleScript_5 ?_
  refine zr_callVv h lC_3 zcw_X11_342 (by decide) (c_X0_settleSigns E M _ (zOk_bind hk)) rfl rfl (Nat.le_of_ble_eq_true rfl) dX11_settleScript_8 (fun M_8 hk => ?_)
  refine zr_aload_n h dX11_settleScript_11 0 rfl rfl ?_
  refine zr_getR h zfo_X11_47 lC_0 rfl dX11_settleScript_12 ?_
  refine zr_aload_n h dX11_settleScript_15 0 rfl rfl ?_
  refine zr_getR h zfo_X11_26 lC_0 rfl dX11_settleScript_16 ?_
  refine zr_aload_n h dX11_settleScript_19 0 rfl rfl ?_
  refine zr_getR h zfo_X11_19 lC_0 rfl dX11_settleScript_20 ?_
  refine zr_aload_n h dX11_settleScript_23 0 rfl rfl ?_
  refine zr_getR h zfo_X11_40 lC_0 rfl dX11_settleScript_24 ?_
  refine zr_iconst (v := (zI 1)) h dX11_settleScript_27 rfl ?_
  refine zr_callVp h lC_20 zcw_X11_294 (by decide) (c_X1_settingOf E M_8 (zI 1) _ (zOk_bind hk)) rfl rfl (Nat.le_of_ble_eq_true rfl) dX11_settleScript_28 (fun r_28 hk => ?_)
  refine zr_callVv h lC_30 zcw_X11_346 (by decide) (c_X6_settle E M_8 r_28 _ (zOk_bind hk)) rfl rfl (Nat.le_of_ble_eq_true rfl) dX11_settleScript_31 (fun M_31 hk => ?_)
  refine zr_aload_n h dX11_settleScript_34 0 rfl rfl ?_
  refine zr_getR h zfo_X11_54 lC_0 rfl dX11_settleScript_35 ?_
  refine zr_aload_n h dX11_settleScript_38 0 rfl rfl ?_
  refine zr_getR h zfo_X11_47 lC_0 rfl dX11_settleScript_39 ?_
  refine zr_aload_n h dX11_settleScript_42 0 rfl rfl ?_
  refine zr_getR h zfo_X11_40 lC_0 rfl dX11_settleScript_43 ?_
  refine zr_iconst (v := (zI 2)) h dX11_settleScript_46 rfl ?_
  refine zr_callVp h lC_20 zcw_X11_294 (by decide) (c_X1_settingOf E M_31 (zI 2) _ (zOk_bind hk)) rfl rfl (Nat.le_of_ble_eq_true rfl) dX11_settleScript_47 (fun r_47 hk => ?_)
  refine zr_callVv h lC_34 zcw_X11_349 (by decide) (c_X2_settle E M_31 r_47 _ (zOk_bind hk)) rfl rfl (Nat.le_of_ble_eq_true rfl) dX11_settleScript_50 (fun M_50 hk => ?_)
  refine zr_aload_n h dX11_settleScript_53 0 rfl rfl ?_
  refine zr_getR h zfo_X11_63 lC_0 rfl dX11_settleScript_54 ?_
  refine zr_callVv h lC_41 zcw_X11_352 (by decide) (c_X5_forgetWords E 41 lC_41 lC_42 lC_43 lC_44 M_50 _ (zOk_bind hk)) rfl rfl (Nat.le_of_ble_eq_true rfl) dX11_settleScript_57 (fun M_57 hk => ?_)
  refine zr_aload_n h dX11_settleScript_60 0 rfl rfl ?_
  refine zr_getR h zfo_X11_67 lC_0 rfl dX11_settleScript_61 ?_
  refine zr_callVv h lC_45 zcw_X11_352 (by decide) (c_X5_forgetWords E 45 lC_45 lC_46 lC_47 lC_48 M_57 _ (zOk_bind hk)) rfl rfl (Nat.le_of_ble_eq_true rfl) dX11_settleScript_64 (fun M_64 hk => ?_)
  refine zr_aload_n h dX11_settleScript_67 0 rfl rfl ?_
  refine zr_getR h zfo_X11_54 lC_0 rfl dX11_settleScript_68 ?_
  refine zr_aload_n h dX11_settleScript_71 0 rfl rfl ?_
  refine zr_getR h zfo_X11_63 lC_0 rfl dX11_settleScript_72 ?_
  refine zr_aload_n h dX11_settleScript_75 0 rfl rfl ?_
  refine zr_getR h zfo_X11_67 lC_0 rfl dX11_settleScript_76 ?_
  refine zr_callVv h lC_34 zcw_X11_355 (by decide) (c_X2_compareWords E M_64 _ (zOk_bind hk)) rfl rfl (Nat.le_of_ble_eq_true rfl) dX11_settleScript_79 (fun M_79 hk => ?_)
  refine zr_aload_n h dX11_settleScript_82 0 rfl rfl ?_
  refine zr_iconst (v := (zI 0)) h dX11_settleScript_83 rfl ?_
  refine zr_putZ h zfp_X11_95 lC_0 rfl (by decide) dX11_settleScript_84 ?_
  refine zr_mem (fun M_84 eM => ?_)
  have hk := zOk_bnd eM hk
  refine zr_aload_n h dX11_settleScript_87 0 rfl rfl ?_
  refine zr_iconst (v := (zI 1)) h dX11_settleScript_88 rfl ?_
  refine zr_putZ h zfp_X11_134 lC_0 rfl (by decide) dX11_settleScript_89 ?_
  refine zr_mem (fun M_89 eM => ?_)
  have hk := zOk_bnd eM hk
  have hk := zOk_some hk
  exact zr_vret h dX11_settleScript_92 ⟨rfl, hk⟩
theorem dX11_freshenScript_0 : decode cX11_freshenScript 0 = .ok (.aload_n 0, 1) := by decide +kernel
theorem dX11_freshenScript_1 : decode cX11_freshenScript 1 = .ok (.getfield 95, 3) := by decide +kernel
theorem dX11_freshenScript_4 : decode cX11_freshenScript 4 = .ok (.ifCond .eq 7, 3) := by decide +kernel
theorem dX11_freshenScript_7 : decode cX11_freshenScript 7 = .ok (.aload_n 0, 1) := by decide +kernel
theorem dX11_freshenScript_8 : decode cX11_freshenScript 8 = .ok (.invokevirtual 336, 3) := by decide +kernel
theorem dX11_freshenScript_11 : decode cX11_freshenScript 11 = .ok (.return_, 1) := by decide +kernel
noncomputable def f_X11_freshenScript (M : ZMem) : Option ZMem := if (M.1 0 13) = (zI 0) then some M else zbind (f_X11_settleScript M) (fun M_8 => some M_8)
set_option maxRecDepth 100000 in
set_option maxHeartbeats 4000000 in
theorem c_X11_freshenScript (E : ZEv) (M : ZMem) (K : ZMem → Prop) (hk : zOk (f_X11_freshenScript M) K) : zCon lyC E yX11_freshenScript cX11_freshenScript 1 none 6 [zrf E 0] M (zRv K) := by
  refine zcon_of (L0 := [(0, zrf E 0)]) (by decide) rfl (Nat.le_of_ble_eq_true rfl) (fun G h => ?_)
  have h : zRu lyC E G (zRv K) cX11_freshenScript RX11 1 none 6 := h
  unfold f_X11_freshenScript at hk
  refine zr_aload_n h dX11_freshenScript_0 0 rfl rfl ?_
  refine zr_getI h zfo_X11_95 lC_0 rfl dX11_freshenScript_1 ?_
  refine zr_if_eq (tgt := 11) h dX11_freshenScript_4 (by decide) (fun c => ?_) (fun c => ?_)
  · have hk := zOk_t c hk
    have hk := zOk_some hk
    exact zr_vret h dX11_freshenScript_11 ⟨rfl, hk⟩
  · have hk := zOk_f c hk
    refine zr_aload_n h dX11_freshenScript_7 0 rfl rfl ?_
    refine zr_callVv h lC_0 zcw_X11_336 (by decide) (c_X11_settleScript E M _ (zOk_bind hk)) rfl rfl (Nat.le_of_ble_eq_true rfl) dX11_freshenScript_8 (fun M_8 hk => ?_)
    have hk := zOk_some hk
    exact zr_vret h dX11_freshenScript_11 ⟨rfl, hk⟩
theorem dX11_sign_0 : decode cX11_sign 0 = .ok (.aload_n 0, 1) := by decide +kernel
theorem dX11_sign_1 : decode cX11_sign 1 = .ok (.invokevirtual 141, 3) := by decide +kernel
theorem dX11_sign_4 : decode cX11_sign 4 = .ok (.aload_n 0, 1) := by decide +kernel
theorem dX11_sign_5 : decode cX11_sign 5 = .ok (.getfield 19, 3) := by decide +kernel
theorem dX11_sign_8 : decode cX11_sign 8 = .ok (.iload_n 1, 1) := by decide +kernel
theorem dX11_sign_9 : decode cX11_sign 9 = .ok (.invokevirtual 144, 3) := by decide +kernel
theorem dX11_sign_12 : decode cX11_sign 12 = .ok (.ireturn, 1) := by decide +kernel
noncomputable def f_X11_sign (M : ZMem) (x1 : Int32) : Option (ZMem × Int32) := zbind (f_X11_freshenScript M) (fun M_1 => zbind (f_X0_signOf M_1 x1) (fun r_9 => some (M_1, r_9)))
set_option maxRecDepth 100000 in
set_option maxHeartbeats 4000000 in
theorem c_X11_sign (E : ZEv) (M : ZMem) (x1 : Int32) (K : ZMem × Int32 → Prop) (hk : zOk (f_X11_sign M x1) K) : zCon lyC E yX11_sign cX11_sign 2 (some .int) 7 [zrf E 0, .int x1] M (zRm K) := by
  refine zcon_of (L0 := [(0, zrf E 0), (1, .int x1)]) (by decide) rfl (Nat.le_of_ble_eq_true rfl) (fun G h => ?_)
  have h : zRu lyC E G (zRm K) cX11_sign RX11 2 (some .int) 7 := h
  unfold f_X11_sign at hk
  refine zr_aload_n h dX11_sign_0 0 rfl rfl ?_
  refine zr_callVv h lC_0 zcw_X11_141 (by decide) (c_X11_freshenScript E M _ (zOk_bind hk)) rfl rfl (Nat.le_of_ble_eq_true rfl) dX11_sign_1 (fun M_1 hk => ?_)
  refine zr_aload_n h dX11_sign_4 0 rfl rfl ?_
  refine zr_getR h zfo_X11_19 lC_0 rfl dX11_sign_5 ?_
  refine zr_iload_n h dX11_sign_8 1 rfl rfl ?_
  refine zr_callVp h lC_3 zcw_X11_144 (by decide) (c_X0_signOf E M_1 x1 _ (zOk_bind hk)) rfl rfl (Nat.le_of_ble_eq_true rfl) dX11_sign_9 (fun r_9 hk => ?_)
  have hk := zOk_some hk
  exact zr_iret h dX11_sign_12 ⟨_, rfl, hk⟩
theorem dX11_size_0 : decode cX11_size 0 = .ok (.aload_n 0, 1) := by decide +kernel
theorem dX11_size_1 : decode cX11_size 1 = .ok (.invokevirtual 141, 3) := by decide +kernel
theorem dX11_size_4 : decode cX11_size 4 = .ok (.aload_n 0, 1) := by decide +kernel
theorem dX11_size_5 : decode cX11_size 5 = .ok (.getfield 19, 3) := by decide +kernel
theorem dX11_size_8 : decode cX11_size 8 = .ok (.iload_n 1, 1) := by decide +kernel
theorem dX11_size_9 : decode cX11_size 9 = .ok (.invokevirtual 148, 3) := by decide +kernel
theorem dX11_size_12 : decode cX11_size 12 = .ok (.ireturn, 1) := by decide +kernel
noncomputable def f_X11_size (M : ZMem) (x1 : Int32) : Option (ZMem × Int32) := zbind (f_X11_freshenScript M) (fun M_1 => zbind (f_X0_sizeOf M_1 x1) (fun r_9 => some (M_1, r_9)))
set_option maxRecDepth 100000 in
set_option maxHeartbeats 4000000 in
theorem c_X11_size (E : ZEv) (M : ZMem) (x1 : Int32) (K : ZMem × Int32 → Prop) (hk : zOk (f_X11_size M x1) K) : zCon lyC E yX11_size cX11_size 2 (some .int) 7 [zrf E 0, .int x1] M (zRm K) := by
  refine zcon_of (L0 := [(0, zrf E 0), (1, .int x1)]) (by decide) rfl (Nat.le_of_ble_eq_true rfl) (fun G h => ?_)
  have h : zRu lyC E G (zRm K) cX11_size RX11 2 (some .int) 7 := h
  unfold f_X11_size at hk
  refine zr_aload_n h dX11_size_0 0 rfl rfl ?_
  refine zr_callVv h lC_0 zcw_X11_141 (by decide) (c_X11_freshenScript E M _ (zOk_bind hk)) rfl rfl (Nat.le_of_ble_eq_true rfl) dX11_size_1 (fun M_1 hk => ?_)
  refine zr_aload_n h dX11_size_4 0 rfl rfl ?_
  refine zr_getR h zfo_X11_19 lC_0 rfl dX11_size_5 ?_
  refine zr_iload_n h dX11_size_8 1 rfl rfl ?_
  refine zr_callVp h lC_3 zcw_X11_148 (by decide) (c_X0_sizeOf E M_1 x1 _ (zOk_bind hk)) rfl rfl (Nat.le_of_ble_eq_true rfl) dX11_size_9 (fun r_9 hk => ?_)
  have hk := zOk_some hk
  exact zr_iret h dX11_size_12 ⟨_, rfl, hk⟩
theorem dX11_tree_0 : decode cX11_tree 0 = .ok (.aload_n 0, 1) := by decide +kernel
theorem dX11_tree_1 : decode cX11_tree 1 = .ok (.getfield 19, 3) := by decide +kernel
theorem dX11_tree_4 : decode cX11_tree 4 = .ok (.iload_n 1, 1) := by decide +kernel
theorem dX11_tree_5 : decode cX11_tree 5 = .ok (.iload_n 2, 1) := by decide +kernel
theorem dX11_tree_6 : decode cX11_tree 6 = .ok (.invokevirtual 151, 3) := by decide +kernel
theorem dX11_tree_9 : decode cX11_tree 9 = .ok (.ireturn, 1) := by decide +kernel
noncomputable def f_X11_tree (M : ZMem) (x1 : Int32) (x2 : Int32) : Option Int32 := zbind (f_X0_treeAt M x1 x2) (fun r_6 => some r_6)
set_option maxRecDepth 100000 in
set_option maxHeartbeats 4000000 in
theorem c_X11_tree (E : ZEv) (M : ZMem) (x1 : Int32) (x2 : Int32) (K : Int32 → Prop) (hk : zOk (f_X11_tree M x1 x2) K) : zCon lyC E yX11_tree cX11_tree 3 (some .int) 3 [zrf E 0, .int x1, .int x2] M (zRp M K) := by
  refine zcon_of (L0 := [(0, zrf E 0), (1, .int x1), (2, .int x2)]) (by decide) rfl (Nat.le_of_ble_eq_true rfl) (fun G h => ?_)
  have h : zRu lyC E G (zRp M K) cX11_tree RX11 3 (some .int) 3 := h
  unfold f_X11_tree at hk
  refine zr_aload_n h dX11_tree_0 0 rfl rfl ?_
  refine zr_getR h zfo_X11_19 lC_0 rfl dX11_tree_1 ?_
  refine zr_iload_n h dX11_tree_4 1 rfl rfl ?_
  refine zr_iload_n h dX11_tree_5 2 rfl rfl ?_
  refine zr_callVp h lC_3 zcw_X11_151 (by decide) (c_X0_treeAt E M x1 x2 _ (zOk_bind hk)) rfl rfl (Nat.le_of_ble_eq_true rfl) dX11_tree_6 (fun r_6 hk => ?_)
  have hk := zOk_some hk
  exact zr_iret h dX11_tree_9 ⟨rfl, _, rfl, hk⟩
theorem dX11_changeSetting_0 : decode cX11_changeSetting 0 = .ok (.aload_n 0, 1) := by decide +kernel
theorem dX11_changeSetting_1 : decode cX11_changeSetting 1 = .ok (.getfield 40, 3) := by decide +kernel
theorem dX11_changeSetting_4 : decode cX11_changeSetting 4 = .ok (.iload_n 1, 1) := by decide +kernel
theorem dX11_changeSetting_5 : decode cX11_changeSetting 5 = .ok (.invokevirtual 294, 3) := by decide +kernel
theorem dX11_changeSetting_8 : decode cX11_changeSetting 8 = .ok (.istore 5, 2) := by decide +kernel
theorem dX11_changeSetting_10 : decode cX11_changeSetting 10 = .ok (.iload_n 2, 1) := by decide +kernel
theorem dX11_changeSetting_11 : decode cX11_changeSetting 11 = .ok (.iload_n 3, 1) := by decide +kernel
theorem dX11_changeSetting_12 : decode cX11_changeSetting 12 = .ok (.if_icmp .lt 15, 3) := by decide +kernel
theorem dX11_changeSetting_15 : decode cX11_changeSetting 15 = .ok (.iload_n 2, 1) := by decide +kernel
theorem dX11_changeSetting_16 : decode cX11_changeSetting 16 = .ok (.iload 4, 2) := by decide +kernel
theorem dX11_changeSetting_18 : decode cX11_changeSetting 18 = .ok (.if_icmp .gt 9, 3) := by decide +kernel
theorem dX11_changeSetting_21 : decode cX11_changeSetting 21 = .ok (.iload_n 2, 1) := by decide +kernel
theorem dX11_changeSetting_22 : decode cX11_changeSetting 22 = .ok (.iload 5, 2) := by decide +kernel
theorem dX11_changeSetting_24 : decode cX11_changeSetting 24 = .ok (.if_icmp .ne 5, 3) := by decide +kernel
theorem dX11_changeSetting_27 : decode cX11_changeSetting 27 = .ok (.iconst (-1), 1) := by decide +kernel
theorem dX11_changeSetting_28 : decode cX11_changeSetting 28 = .ok (.ireturn, 1) := by decide +kernel
theorem dX11_changeSetting_29 : decode cX11_changeSetting 29 = .ok (.aload_n 0, 1) := by decide +kernel
theorem dX11_changeSetting_30 : decode cX11_changeSetting 30 = .ok (.getfield 40, 3) := by decide +kernel
theorem dX11_changeSetting_33 : decode cX11_changeSetting 33 = .ok (.iload_n 1, 1) := by decide +kernel
theorem dX11_changeSetting_34 : decode cX11_changeSetting 34 = .ok (.iload_n 2, 1) := by decide +kernel
theorem dX11_changeSetting_35 : decode cX11_changeSetting 35 = .ok (.invokevirtual 308, 3) := by decide +kernel
theorem dX11_changeSetting_38 : decode cX11_changeSetting 38 = .ok (.aload_n 0, 1) := by decide +kernel
theorem dX11_changeSetting_39 : decode cX11_changeSetting 39 = .ok (.iconst 1, 1) := by decide +kernel
theorem dX11_changeSetting_40 : decode cX11_changeSetting 40 = .ok (.putfield 95, 3) := by decide +kernel
theorem dX11_changeSetting_43 : decode cX11_changeSetting 43 = .ok (.iload 5, 2) := by decide +kernel
theorem dX11_changeSetting_45 : decode cX11_changeSetting 45 = .ok (.ireturn, 1) := by decide +kernel
noncomputable def f_X11_changeSetting (M : ZMem) (x1 : Int32) (x2 : Int32) (x3 : Int32) (x4 : Int32) : Option (ZMem × Int32) := zbind (f_X1_settingOf M x1) (fun r_5 => if x2 < x3 then some (M, (zI (-1))) else if x4 < x2 then some (M, (zI (-1))) else if x2 = r_5 then some (M, (zI (-1))) else zbind (f_X1_set M x1 x2) (fun M_35 => zbnd (zstI M_35 0 13 (zI 1)) (fun M_40 => some (M_40, r_5))))
set_option maxRecDepth 100000 in
set_option maxHeartbeats 4000000 in
theorem c_X11_changeSetting (E : ZEv) (M : ZMem) (x1 : Int32) (x2 : Int32) (x3 : Int32) (x4 : Int32) (K : ZMem × Int32 → Prop) (hk : zOk (f_X11_changeSetting M x1 x2 x3 x4) K) : zCon lyC E yX11_changeSetting cX11_changeSetting 6 (some .int) 3 [zrf E 0, .int x1, .int x2, .int x3, .int x4] M (zRm K) := by
  refine zcon_of (L0 := [(0, zrf E 0), (1, .int x1), (2, .int x2), (3, .int x3), (4, .int x4)]) (by decide) rfl (Nat.le_of_ble_eq_true rfl) (fun G h => ?_)
  have h : zRu lyC E G (zRm K) cX11_changeSetting RX11 6 (some .int) 3 := h
  unfold f_X11_changeSetting at hk
  refine zr_aload_n h dX11_changeSetting_0 0 rfl rfl ?_
  refine zr_getR h zfo_X11_40 lC_0 rfl dX11_changeSetting_1 ?_
  refine zr_iload_n h dX11_changeSetting_4 1 rfl rfl ?_
  refine zr_callVp h lC_20 zcw_X11_294 (by decide) (c_X1_settingOf E M x1 _ (zOk_bind hk)) rfl rfl (Nat.le_of_ble_eq_true rfl) dX11_changeSetting_5 (fun r_5 hk => ?_)
  refine zr_istore (L' := [(0, zrf E 0), (1, .int x1), (2, .int x2), (3, .int x3), (4, .int x4), (5, .int r_5)]) h [1, 2, 3, 4, 5, 0] dX11_changeSetting_8 (by decide) rfl ?_
  refine zr_iload_n h dX11_changeSetting_10 2 rfl rfl ?_
  refine zr_iload_n h dX11_changeSetting_11 3 rfl rfl ?_
  refine zr_icmp_lt (tgt := 27) h dX11_changeSetting_12 (by decide) (fun c => ?_) (fun c => ?_)
  · have hk := zOk_t c hk
    refine zr_iconst (v := (zI (-1))) h dX11_changeSetting_27 rfl ?_
    have hk := zOk_some hk
    exact zr_iret h dX11_changeSetting_28 ⟨_, rfl, hk⟩
  · have hk := zOk_f c hk
    refine zr_iload_n h dX11_changeSetting_15 2 rfl rfl ?_
    refine zr_iload h dX11_changeSetting_16 4 rfl ?_
    refine zr_icmp_gt (tgt := 27) h dX11_changeSetting_18 (by decide) (fun c => ?_) (fun c => ?_)
    · have hk := zOk_t c hk
      refine zr_iconst (v := (zI (-1))) h dX11_changeSetting_27 rfl ?_
      have hk := zOk_some hk
      exact zr_iret h dX11_changeSetting_28 ⟨_, rfl, hk⟩
    · have hk := zOk_f c hk
      refine zr_iload_n h dX11_changeSetting_21 2 rfl rfl ?_
      refine zr_iload h dX11_changeSetting_22 5 rfl ?_
      refine zr_icmp_ne (tgt := 29) h dX11_changeSetting_24 (by decide) (fun c => ?_) (fun c => ?_)
      · have hk := zOk_t c hk
        refine zr_iconst (v := (zI (-1))) h dX11_changeSetting_27 rfl ?_
        have hk := zOk_some hk
        exact zr_iret h dX11_changeSetting_28 ⟨_, rfl, hk⟩
      · have hk := zOk_f c hk
        refine zr_aload_n h dX11_changeSetting_29 0 rfl rfl ?_
        refine zr_getR h zfo_X11_40 lC_0 rfl dX11_changeSetting_30 ?_
        refine zr_iload_n h dX11_changeSetting_33 1 rfl rfl ?_
        refine zr_iload_n h dX11_changeSetting_34 2 rfl rfl ?_
        refine zr_callVv h lC_20 zcw_X11_308 (by decide) (c_X1_set E M x1 x2 _ (zOk_bind hk)) rfl rfl (Nat.le_of_ble_eq_true rfl) dX11_changeSetting_35 (fun M_35 hk => ?_)
        refine zr_aload_n h dX11_changeSetting_38 0 rfl rfl ?_
        refine zr_iconst (v := (zI 1)) h dX11_changeSetting_39 rfl ?_
        refine zr_putZ h zfp_X11_95 lC_0 rfl (by decide) dX11_changeSetting_40 ?_
        refine zr_mem (fun M_40 eM => ?_)
        have hk := zOk_bnd eM hk
        refine zr_iload h dX11_changeSetting_43 5 rfl ?_
        have hk := zOk_some hk
        exact zr_iret h dX11_changeSetting_45 ⟨_, rfl, hk⟩
theorem dX11_loose_0 : decode cX11_loose 0 = .ok (.aload_n 0, 1) := by decide +kernel
theorem dX11_loose_1 : decode cX11_loose 1 = .ok (.iconst 0, 1) := by decide +kernel
theorem dX11_loose_2 : decode cX11_loose 2 = .ok (.iload_n 1, 1) := by decide +kernel
theorem dX11_loose_3 : decode cX11_loose 3 = .ok (.iconst 0, 1) := by decide +kernel
theorem dX11_loose_4 : decode cX11_loose 4 = .ok (.bipush 25, 2) := by decide +kernel
theorem dX11_loose_6 : decode cX11_loose 6 = .ok (.invokevirtual 154, 3) := by decide +kernel
theorem dX11_loose_9 : decode cX11_loose 9 = .ok (.ireturn, 1) := by decide +kernel
noncomputable def f_X11_loose (M : ZMem) (x1 : Int32) : Option (ZMem × Int32) := zbind (f_X11_changeSetting M (zI 0) x1 (zI 0) (zI 25)) (fun r_6 => some (r_6.1, r_6.2))
set_option maxRecDepth 100000 in
set_option maxHeartbeats 4000000 in
theorem c_X11_loose (E : ZEv) (M : ZMem) (x1 : Int32) (K : ZMem × Int32 → Prop) (hk : zOk (f_X11_loose M x1) K) : zCon lyC E yX11_loose cX11_loose 2 (some .int) 4 [zrf E 0, .int x1] M (zRm K) := by
  refine zcon_of (L0 := [(0, zrf E 0), (1, .int x1)]) (by decide) rfl (Nat.le_of_ble_eq_true rfl) (fun G h => ?_)
  have h : zRu lyC E G (zRm K) cX11_loose RX11 2 (some .int) 4 := h
  unfold f_X11_loose at hk
  refine zr_aload_n h dX11_loose_0 0 rfl rfl ?_
  refine zr_iconst (v := (zI 0)) h dX11_loose_1 rfl ?_
  refine zr_iload_n h dX11_loose_2 1 rfl rfl ?_
  refine zr_iconst (v := (zI 0)) h dX11_loose_3 rfl ?_
  refine zr_bipush (v := (zI 25)) h dX11_loose_4 (by decide) ?_
  refine zr_callVm h lC_0 zcw_X11_154 (by decide) (c_X11_changeSetting E M (zI 0) x1 (zI 0) (zI 25) _ (zOk_bind hk)) rfl rfl (Nat.le_of_ble_eq_true rfl) dX11_loose_6 (fun r_6 hk => ?_)
  have hk := zOk_some hk
  exact zr_iret h dX11_loose_9 ⟨_, rfl, hk⟩
theorem dX11_changeTie_0 : decode cX11_changeTie 0 = .ok (.aload_n 0, 1) := by decide +kernel
theorem dX11_changeTie_1 : decode cX11_changeTie 1 = .ok (.getfield 19, 3) := by decide +kernel
theorem dX11_changeTie_4 : decode cX11_changeTie 4 = .ok (.iload_n 1, 1) := by decide +kernel
theorem dX11_changeTie_5 : decode cX11_changeTie 5 = .ok (.invokevirtual 234, 3) := by decide +kernel
theorem dX11_changeTie_8 : decode cX11_changeTie 8 = .ok (.ifCond .eq 19, 3) := by decide +kernel
theorem dX11_changeTie_11 : decode cX11_changeTie 11 = .ok (.aload_n 0, 1) := by decide +kernel
theorem dX11_changeTie_12 : decode cX11_changeTie 12 = .ok (.getfield 19, 3) := by decide +kernel
theorem dX11_changeTie_15 : decode cX11_changeTie 15 = .ok (.iload_n 2, 1) := by decide +kernel
theorem dX11_changeTie_16 : decode cX11_changeTie 16 = .ok (.invokevirtual 234, 3) := by decide +kernel
theorem dX11_changeTie_19 : decode cX11_changeTie 19 = .ok (.ifCond .eq 8, 3) := by decide +kernel
theorem dX11_changeTie_22 : decode cX11_changeTie 22 = .ok (.iload_n 1, 1) := by decide +kernel
theorem dX11_changeTie_23 : decode cX11_changeTie 23 = .ok (.iload_n 2, 1) := by decide +kernel
theorem dX11_changeTie_24 : decode cX11_changeTie 24 = .ok (.if_icmp .ne 5, 3) := by decide +kernel
theorem dX11_changeTie_27 : decode cX11_changeTie 27 = .ok (.iconst 0, 1) := by decide +kernel
theorem dX11_changeTie_28 : decode cX11_changeTie 28 = .ok (.ireturn, 1) := by decide +kernel
theorem dX11_changeTie_29 : decode cX11_changeTie 29 = .ok (.aload_n 0, 1) := by decide +kernel
theorem dX11_changeTie_30 : decode cX11_changeTie 30 = .ok (.getfield 40, 3) := by decide +kernel
theorem dX11_changeTie_33 : decode cX11_changeTie 33 = .ok (.iload_n 1, 1) := by decide +kernel
theorem dX11_changeTie_34 : decode cX11_changeTie 34 = .ok (.iload_n 2, 1) := by decide +kernel
theorem dX11_changeTie_35 : decode cX11_changeTie 35 = .ok (.iload_n 3, 1) := by decide +kernel
theorem dX11_changeTie_36 : decode cX11_changeTie 36 = .ok (.iload 4, 2) := by decide +kernel
theorem dX11_changeTie_38 : decode cX11_changeTie 38 = .ok (.invokevirtual 312, 3) := by decide +kernel
theorem dX11_changeTie_41 : decode cX11_changeTie 41 = .ok (.istore 5, 2) := by decide +kernel
theorem dX11_changeTie_43 : decode cX11_changeTie 43 = .ok (.aload_n 0, 1) := by decide +kernel
theorem dX11_changeTie_44 : decode cX11_changeTie 44 = .ok (.dup, 1) := by decide +kernel
theorem dX11_changeTie_45 : decode cX11_changeTie 45 = .ok (.getfield 95, 3) := by decide +kernel
theorem dX11_changeTie_48 : decode cX11_changeTie 48 = .ok (.iload 5, 2) := by decide +kernel
theorem dX11_changeTie_50 : decode cX11_changeTie 50 = .ok (.ior, 1) := by decide +kernel
theorem dX11_changeTie_51 : decode cX11_changeTie 51 = .ok (.putfield 95, 3) := by decide +kernel
theorem dX11_changeTie_54 : decode cX11_changeTie 54 = .ok (.iload 5, 2) := by decide +kernel
theorem dX11_changeTie_56 : decode cX11_changeTie 56 = .ok (.ireturn, 1) := by decide +kernel
noncomputable def f_X11_changeTie (M : ZMem) (x1 : Int32) (x2 : Int32) (x3 : Int32) (x4 : Int32) : Option (ZMem × Int32) := zbind (f_X0_has M x1) (fun r_5 => if r_5 = (zI 0) then some (M, (zI 0)) else zbind (f_X0_has M x2) (fun r_16 => if r_16 = (zI 0) then some (M, (zI 0)) else if x1 = x2 then some (M, (zI 0)) else zbind (f_X1_tellTie M x1 x2 x3 x4) (fun r_38 => zchk (zisB ((r_38.1.1 0 13) ||| r_38.2)) (zbnd (zstI r_38.1 0 13 ((r_38.1.1 0 13) ||| r_38.2)) (fun M_51 => zchk (zisB r_38.2) (some (M_51, r_38.2)))))))
set_option maxRecDepth 100000 in
set_option maxHeartbeats 4000000 in
theorem c_X11_changeTie (E : ZEv) (M : ZMem) (x1 : Int32) (x2 : Int32) (x3 : Int32) (x4 : Int32) (K : ZMem × Int32 → Prop) (hk : zOk (f_X11_changeTie M x1 x2 x3 x4) K) : zCon lyC E yX11_changeTie cX11_changeTie 6 (some .boolean) 3 [zrf E 0, .int x1, .int x2, .int x3, .int x4] M (zRm K) := by
  refine zcon_of (L0 := [(0, zrf E 0), (1, .int x1), (2, .int x2), (3, .int x3), (4, .int x4)]) (by decide) rfl (Nat.le_of_ble_eq_true rfl) (fun G h => ?_)
  have h : zRu lyC E G (zRm K) cX11_changeTie RX11 6 (some .boolean) 3 := h
  unfold f_X11_changeTie at hk
  refine zr_aload_n h dX11_changeTie_0 0 rfl rfl ?_
  refine zr_getR h zfo_X11_19 lC_0 rfl dX11_changeTie_1 ?_
  refine zr_iload_n h dX11_changeTie_4 1 rfl rfl ?_
  refine zr_callVp h lC_3 zcw_X11_234 (by decide) (c_X0_has E M x1 _ (zOk_bind hk)) rfl rfl (Nat.le_of_ble_eq_true rfl) dX11_changeTie_5 (fun r_5 hk => ?_)
  refine zr_if_eq (tgt := 27) h dX11_changeTie_8 (by decide) (fun c => ?_) (fun c => ?_)
  · have hk := zOk_t c hk
    refine zr_iconst (v := (zI 0)) h dX11_changeTie_27 rfl ?_
    have hk := zOk_some hk
    exact zr_zret h dX11_changeTie_28 (by decide) ⟨_, rfl, hk⟩
  · have hk := zOk_f c hk
    refine zr_aload_n h dX11_changeTie_11 0 rfl rfl ?_
    refine zr_getR h zfo_X11_19 lC_0 rfl dX11_changeTie_12 ?_
    refine zr_iload_n h dX11_changeTie_15 2 rfl rfl ?_
    refine zr_callVp h lC_3 zcw_X11_234 (by decide) (c_X0_has E M x2 _ (zOk_bind hk)) rfl rfl (Nat.le_of_ble_eq_true rfl) dX11_changeTie_16 (fun r_16 hk => ?_)
    refine zr_if_eq (tgt := 27) h dX11_changeTie_19 (by decide) (fun c => ?_) (fun c => ?_)
    · have hk := zOk_t c hk
      refine zr_iconst (v := (zI 0)) h dX11_changeTie_27 rfl ?_
      have hk := zOk_some hk
      exact zr_zret h dX11_changeTie_28 (by decide) ⟨_, rfl, hk⟩
    · have hk := zOk_f c hk
      refine zr_iload_n h dX11_changeTie_22 1 rfl rfl ?_
      refine zr_iload_n h dX11_changeTie_23 2 rfl rfl ?_
      refine zr_icmp_ne (tgt := 29) h dX11_changeTie_24 (by decide) (fun c => ?_) (fun c => ?_)
      · have hk := zOk_t c hk
        refine zr_iconst (v := (zI 0)) h dX11_changeTie_27 rfl ?_
        have hk := zOk_some hk
        exact zr_zret h dX11_changeTie_28 (by decide) ⟨_, rfl, hk⟩
      · have hk := zOk_f c hk
        refine zr_aload_n h dX11_changeTie_29 0 rfl rfl ?_
        refine zr_getR h zfo_X11_40 lC_0 rfl dX11_changeTie_30 ?_
        refine zr_iload_n h dX11_changeTie_33 1 rfl rfl ?_
        refine zr_iload_n h dX11_changeTie_34 2 rfl rfl ?_
        refine zr_iload_n h dX11_changeTie_35 3 rfl rfl ?_
        refine zr_iload h dX11_changeTie_36 4 rfl ?_
        refine zr_callVm h lC_20 zcw_X11_312 (by decide) (c_X1_tellTie E M x1 x2 x3 x4 _ (zOk_bind hk)) rfl rfl (Nat.le_of_ble_eq_true rfl) dX11_changeTie_38 (fun r_38 hk => ?_)
        refine zr_istore (L' := [(0, zrf E 0), (5, .int r_38.2)]) h [1, 0] dX11_changeTie_41 (by decide) rfl ?_
        refine zr_aload_n h dX11_changeTie_43 0 rfl rfl ?_
        refine zr_dup h dX11_changeTie_44 rfl ?_
        refine zr_getI h zfo_X11_95 lC_0 rfl dX11_changeTie_45 ?_
        refine zr_iload h dX11_changeTie_48 1 rfl ?_
        refine zr_ior h dX11_changeTie_50 ?_
        have hb := zOk_chk hk
        have hk := hb.2
        refine zr_putZ h zfp_X11_95 lC_0 rfl hb.1 dX11_changeTie_51 ?_
        refine zr_mem (fun M_51 eM => ?_)
        have hk := zOk_bnd eM hk
        refine zr_iload h dX11_changeTie_54 1 rfl ?_
        have hb := zOk_chk hk
        have hk := hb.2
        have hk := zOk_some hk
        exact zr_zret h dX11_changeTie_56 hb.1 ⟨_, rfl, hk⟩
theorem dX11_alike_0 : decode cX11_alike 0 = .ok (.aload_n 0, 1) := by decide +kernel
theorem dX11_alike_1 : decode cX11_alike 1 = .ok (.iload_n 1, 1) := by decide +kernel
theorem dX11_alike_2 : decode cX11_alike 2 = .ok (.iload_n 2, 1) := by decide +kernel
theorem dX11_alike_3 : decode cX11_alike 3 = .ok (.iconst 1, 1) := by decide +kernel
theorem dX11_alike_4 : decode cX11_alike 4 = .ok (.iload_n 3, 1) := by decide +kernel
theorem dX11_alike_5 : decode cX11_alike 5 = .ok (.invokevirtual 158, 3) := by decide +kernel
theorem dX11_alike_8 : decode cX11_alike 8 = .ok (.ireturn, 1) := by decide +kernel
noncomputable def f_X11_alike (M : ZMem) (x1 : Int32) (x2 : Int32) (x3 : Int32) : Option (ZMem × Int32) := zbind (f_X11_changeTie M x1 x2 (zI 1) x3) (fun r_5 => zchk (zisB r_5.2) (some (r_5.1, r_5.2)))
set_option maxRecDepth 100000 in
set_option maxHeartbeats 4000000 in
theorem c_X11_alike (E : ZEv) (M : ZMem) (x1 : Int32) (x2 : Int32) (x3 : Int32) (K : ZMem × Int32 → Prop) (hk : zOk (f_X11_alike M x1 x2 x3) K) : zCon lyC E yX11_alike cX11_alike 4 (some .boolean) 4 [zrf E 0, .int x1, .int x2, .int x3] M (zRm K) := by
  refine zcon_of (L0 := [(0, zrf E 0), (1, .int x1), (2, .int x2), (3, .int x3)]) (by decide) rfl (Nat.le_of_ble_eq_true rfl) (fun G h => ?_)
  have h : zRu lyC E G (zRm K) cX11_alike RX11 4 (some .boolean) 4 := h
  unfold f_X11_alike at hk
  refine zr_aload_n h dX11_alike_0 0 rfl rfl ?_
  refine zr_iload_n h dX11_alike_1 1 rfl rfl ?_
  refine zr_iload_n h dX11_alike_2 2 rfl rfl ?_
  refine zr_iconst (v := (zI 1)) h dX11_alike_3 rfl ?_
  refine zr_iload_n h dX11_alike_4 3 rfl rfl ?_
  refine zr_callVm h lC_0 zcw_X11_158 (by decide) (c_X11_changeTie E M x1 x2 (zI 1) x3 _ (zOk_bind hk)) rfl rfl (Nat.le_of_ble_eq_true rfl) dX11_alike_5 (fun r_5 hk => ?_)
  have hb := zOk_chk hk
  have hk := hb.2
  have hk := zOk_some hk
  exact zr_zret h dX11_alike_8 hb.1 ⟨_, rfl, hk⟩
theorem dX11_apart_0 : decode cX11_apart 0 = .ok (.aload_n 0, 1) := by decide +kernel
theorem dX11_apart_1 : decode cX11_apart 1 = .ok (.iload_n 1, 1) := by decide +kernel
theorem dX11_apart_2 : decode cX11_apart 2 = .ok (.iload_n 2, 1) := by decide +kernel
theorem dX11_apart_3 : decode cX11_apart 3 = .ok (.iconst 2, 1) := by decide +kernel
theorem dX11_apart_4 : decode cX11_apart 4 = .ok (.iload_n 3, 1) := by decide +kernel
theorem dX11_apart_5 : decode cX11_apart 5 = .ok (.invokevirtual 158, 3) := by decide +kernel
theorem dX11_apart_8 : decode cX11_apart 8 = .ok (.ireturn, 1) := by decide +kernel
noncomputable def f_X11_apart (M : ZMem) (x1 : Int32) (x2 : Int32) (x3 : Int32) : Option (ZMem × Int32) := zbind (f_X11_changeTie M x1 x2 (zI 2) x3) (fun r_5 => zchk (zisB r_5.2) (some (r_5.1, r_5.2)))
set_option maxRecDepth 100000 in
set_option maxHeartbeats 4000000 in
theorem c_X11_apart (E : ZEv) (M : ZMem) (x1 : Int32) (x2 : Int32) (x3 : Int32) (K : ZMem × Int32 → Prop) (hk : zOk (f_X11_apart M x1 x2 x3) K) : zCon lyC E yX11_apart cX11_apart 4 (some .boolean) 4 [zrf E 0, .int x1, .int x2, .int x3] M (zRm K) := by
  refine zcon_of (L0 := [(0, zrf E 0), (1, .int x1), (2, .int x2), (3, .int x3)]) (by decide) rfl (Nat.le_of_ble_eq_true rfl) (fun G h => ?_)
  have h : zRu lyC E G (zRm K) cX11_apart RX11 4 (some .boolean) 4 := h
  unfold f_X11_apart at hk
  refine zr_aload_n h dX11_apart_0 0 rfl rfl ?_
  refine zr_iload_n h dX11_apart_1 1 rfl rfl ?_
  refine zr_iload_n h dX11_apart_2 2 rfl rfl ?_
  refine zr_iconst (v := (zI 2)) h dX11_apart_3 rfl ?_
  refine zr_iload_n h dX11_apart_4 3 rfl rfl ?_
  refine zr_callVm h lC_0 zcw_X11_158 (by decide) (c_X11_changeTie E M x1 x2 (zI 2) x3 _ (zOk_bind hk)) rfl rfl (Nat.le_of_ble_eq_true rfl) dX11_apart_5 (fun r_5 hk => ?_)
  have hb := zOk_chk hk
  have hk := hb.2
  have hk := zOk_some hk
  exact zr_zret h dX11_apart_8 hb.1 ⟨_, rfl, hk⟩
theorem dX11_way_0 : decode cX11_way 0 = .ok (.aload_n 0, 1) := by decide +kernel
theorem dX11_way_1 : decode cX11_way 1 = .ok (.iconst 1, 1) := by decide +kernel
theorem dX11_way_2 : decode cX11_way 2 = .ok (.iload_n 1, 1) := by decide +kernel
theorem dX11_way_3 : decode cX11_way 3 = .ok (.iconst 0, 1) := by decide +kernel
theorem dX11_way_4 : decode cX11_way 4 = .ok (.iconst 3, 1) := by decide +kernel
theorem dX11_way_5 : decode cX11_way 5 = .ok (.invokevirtual 154, 3) := by decide +kernel
theorem dX11_way_8 : decode cX11_way 8 = .ok (.ireturn, 1) := by decide +kernel
noncomputable def f_X11_way (M : ZMem) (x1 : Int32) : Option (ZMem × Int32) := zbind (f_X11_changeSetting M (zI 1) x1 (zI 0) (zI 3)) (fun r_5 => some (r_5.1, r_5.2))
set_option maxRecDepth 100000 in
set_option maxHeartbeats 4000000 in
theorem c_X11_way (E : ZEv) (M : ZMem) (x1 : Int32) (K : ZMem × Int32 → Prop) (hk : zOk (f_X11_way M x1) K) : zCon lyC E yX11_way cX11_way 2 (some .int) 4 [zrf E 0, .int x1] M (zRm K) := by
  refine zcon_of (L0 := [(0, zrf E 0), (1, .int x1)]) (by decide) rfl (Nat.le_of_ble_eq_true rfl) (fun G h => ?_)
  have h : zRu lyC E G (zRm K) cX11_way RX11 2 (some .int) 4 := h
  unfold f_X11_way at hk
  refine zr_aload_n h dX11_way_0 0 rfl rfl ?_
  refine zr_iconst (v := (zI 1)) h dX11_way_1 rfl ?_
  refine zr_iload_n h dX11_way_2 1 rfl rfl ?_
  refine zr_iconst (v := (zI 0)) h dX11_way_3 rfl ?_
  refine zr_iconst (v := (zI 3)) h dX11_way_4 rfl ?_
  refine zr_callVm h lC_0 zcw_X11_154 (by decide) (c_X11_changeSetting E M (zI 1) x1 (zI 0) (zI 3) _ (zOk_bind hk)) rfl rfl (Nat.le_of_ble_eq_true rfl) dX11_way_5 (fun r_5 hk => ?_)
  have hk := zOk_some hk
  exact zr_iret h dX11_way_8 ⟨_, rfl, hk⟩
theorem dX11_judged_0 : decode cX11_judged 0 = .ok (.aload_n 0, 1) := by decide +kernel
theorem dX11_judged_1 : decode cX11_judged 1 = .ok (.invokevirtual 141, 3) := by decide +kernel
theorem dX11_judged_4 : decode cX11_judged 4 = .ok (.aload_n 0, 1) := by decide +kernel
theorem dX11_judged_5 : decode cX11_judged 5 = .ok (.getfield 47, 3) := by decide +kernel
theorem dX11_judged_8 : decode cX11_judged 8 = .ok (.iload_n 1, 1) := by decide +kernel
theorem dX11_judged_9 : decode cX11_judged 9 = .ok (.invokevirtual 162, 3) := by decide +kernel
theorem dX11_judged_12 : decode cX11_judged 12 = .ok (.ireturn, 1) := by decide +kernel
noncomputable def f_X11_judged (M : ZMem) (x1 : Int32) : Option (ZMem × Int32) := zbind (f_X11_freshenScript M) (fun M_1 => zbind (f_X6_verdict M_1 x1) (fun r_9 => some (M_1, r_9)))
set_option maxRecDepth 100000 in
set_option maxHeartbeats 4000000 in
theorem c_X11_judged (E : ZEv) (M : ZMem) (x1 : Int32) (K : ZMem × Int32 → Prop) (hk : zOk (f_X11_judged M x1) K) : zCon lyC E yX11_judged cX11_judged 2 (some .int) 7 [zrf E 0, .int x1] M (zRm K) := by
  refine zcon_of (L0 := [(0, zrf E 0), (1, .int x1)]) (by decide) rfl (Nat.le_of_ble_eq_true rfl) (fun G h => ?_)
  have h : zRu lyC E G (zRm K) cX11_judged RX11 2 (some .int) 7 := h
  unfold f_X11_judged at hk
  refine zr_aload_n h dX11_judged_0 0 rfl rfl ?_
  refine zr_callVv h lC_0 zcw_X11_141 (by decide) (c_X11_freshenScript E M _ (zOk_bind hk)) rfl rfl (Nat.le_of_ble_eq_true rfl) dX11_judged_1 (fun M_1 hk => ?_)
  refine zr_aload_n h dX11_judged_4 0 rfl rfl ?_
  refine zr_getR h zfo_X11_47 lC_0 rfl dX11_judged_5 ?_
  refine zr_iload_n h dX11_judged_8 1 rfl rfl ?_
  refine zr_callVp h lC_30 zcw_X11_162 (by decide) (c_X6_verdict E M_1 x1 _ (zOk_bind hk)) rfl rfl (Nat.le_of_ble_eq_true rfl) dX11_judged_9 (fun r_9 hk => ?_)
  have hk := zOk_some hk
  exact zr_iret h dX11_judged_12 ⟨_, rfl, hk⟩
theorem dX11_read_0 : decode cX11_read 0 = .ok (.aload_n 0, 1) := by decide +kernel
theorem dX11_read_1 : decode cX11_read 1 = .ok (.getfield 26, 3) := by decide +kernel
theorem dX11_read_4 : decode cX11_read 4 = .ok (.iload_n 1, 1) := by decide +kernel
theorem dX11_read_5 : decode cX11_read 5 = .ok (.iload_n 2, 1) := by decide +kernel
theorem dX11_read_6 : decode cX11_read 6 = .ok (.invokevirtual 165, 3) := by decide +kernel
theorem dX11_read_9 : decode cX11_read 9 = .ok (.istore 4, 2) := by decide +kernel
theorem dX11_read_11 : decode cX11_read 11 = .ok (.iload 4, 2) := by decide +kernel
theorem dX11_read_13 : decode cX11_read 13 = .ok (.iconst (-1), 1) := by decide +kernel
theorem dX11_read_14 : decode cX11_read 14 = .ok (.if_icmp .ne 5, 3) := by decide +kernel
theorem dX11_read_17 : decode cX11_read 17 = .ok (.iconst (-1), 1) := by decide +kernel
theorem dX11_read_18 : decode cX11_read 18 = .ok (.ireturn, 1) := by decide +kernel
theorem dX11_read_19 : decode cX11_read 19 = .ok (.aload_n 0, 1) := by decide +kernel
theorem dX11_read_20 : decode cX11_read 20 = .ok (.invokevirtual 141, 3) := by decide +kernel
theorem dX11_read_23 : decode cX11_read 23 = .ok (.iload_n 3, 1) := by decide +kernel
theorem dX11_read_24 : decode cX11_read 24 = .ok (.iconst (-1), 1) := by decide +kernel
theorem dX11_read_25 : decode cX11_read 25 = .ok (.if_icmp .ne 15, 3) := by decide +kernel
theorem dX11_read_28 : decode cX11_read 28 = .ok (.aload_n 0, 1) := by decide +kernel
theorem dX11_read_29 : decode cX11_read 29 = .ok (.getfield 47, 3) := by decide +kernel
theorem dX11_read_32 : decode cX11_read 32 = .ok (.iload 4, 2) := by decide +kernel
theorem dX11_read_34 : decode cX11_read 34 = .ok (.invokevirtual 168, 3) := by decide +kernel
theorem dX11_read_37 : decode cX11_read 37 = .ok (.goto 13, 3) := by decide +kernel
theorem dX11_read_40 : decode cX11_read 40 = .ok (.aload_n 0, 1) := by decide +kernel
theorem dX11_read_41 : decode cX11_read 41 = .ok (.getfield 47, 3) := by decide +kernel
theorem dX11_read_44 : decode cX11_read 44 = .ok (.iload 4, 2) := by decide +kernel
theorem dX11_read_46 : decode cX11_read 46 = .ok (.iload_n 3, 1) := by decide +kernel
theorem dX11_read_47 : decode cX11_read 47 = .ok (.invokevirtual 171, 3) := by decide +kernel
theorem dX11_read_50 : decode cX11_read 50 = .ok (.ireturn, 1) := by decide +kernel
noncomputable def f_X11_read (M : ZMem) (x1 : Int32) (x2 : Int32) (x3 : Int32) : Option (ZMem × Int32) := zbind (f_X7_rowNumber M x1 x2) (fun r_6 => if r_6 = (zI (-1)) then some (M, (zI (-1))) else zbind (f_X11_freshenScript M) (fun M_20 => if x3 = (zI (-1)) then zbind (f_X6_lengthOf M_20 r_6) (fun r_34 => some (M_20, r_34)) else zbind (f_X6_signAt M_20 r_6 x3) (fun r_47 => some (M_20, r_47))))
set_option maxRecDepth 100000 in
set_option maxHeartbeats 4000000 in
theorem c_X11_read (E : ZEv) (M : ZMem) (x1 : Int32) (x2 : Int32) (x3 : Int32) (K : ZMem × Int32 → Prop) (hk : zOk (f_X11_read M x1 x2 x3) K) : zCon lyC E yX11_read cX11_read 5 (some .int) 7 [zrf E 0, .int x1, .int x2, .int x3] M (zRm K) := by
  refine zcon_of (L0 := [(0, zrf E 0), (1, .int x1), (2, .int x2), (3, .int x3)]) (by decide) rfl (Nat.le_of_ble_eq_true rfl) (fun G h => ?_)
  have h : zRu lyC E G (zRm K) cX11_read RX11 5 (some .int) 7 := h
  unfold f_X11_read at hk
  refine zr_aload_n h dX11_read_0 0 rfl rfl ?_
  refine zr_getR h zfo_X11_26 lC_0 rfl dX11_read_1 ?_
  refine zr_iload_n h dX11_read_4 1 rfl rfl ?_
  refine zr_iload_n h dX11_read_5 2 rfl rfl ?_
  refine zr_callVp h lC_11 zcw_X11_165 (by decide) (c_X7_rowNumber E M x1 x2 _ (zOk_bind hk)) rfl rfl (Nat.le_of_ble_eq_true rfl) dX11_read_6 (fun r_6 hk => ?_)
  refine zr_istore (L' := [(0, zrf E 0), (3, .int x3), (4, .int r_6)]) h [1, 4, 0] dX11_read_9 (by decide) rfl ?_
  refine zr_iload h dX11_read_11 2 rfl ?_
  refine zr_iconst (v := (zI (-1))) h dX11_read_13 rfl ?_
  refine zr_icmp_ne (tgt := 19) h dX11_read_14 (by decide) (fun c => ?_) (fun c => ?_)
  · have hk := zOk_t c hk
    refine zr_iconst (v := (zI (-1))) h dX11_read_17 rfl ?_
    have hk := zOk_some hk
    exact zr_iret h dX11_read_18 ⟨_, rfl, hk⟩
  · have hk := zOk_f c hk
    refine zr_aload_n h dX11_read_19 0 rfl rfl ?_
    refine zr_callVv h lC_0 zcw_X11_141 (by decide) (c_X11_freshenScript E M _ (zOk_bind hk)) rfl rfl (Nat.le_of_ble_eq_true rfl) dX11_read_20 (fun M_20 hk => ?_)
    refine zr_iload_n h dX11_read_23 1 rfl rfl ?_
    refine zr_iconst (v := (zI (-1))) h dX11_read_24 rfl ?_
    refine zr_icmp_ne (tgt := 40) h dX11_read_25 (by decide) (fun c => ?_) (fun c => ?_)
    · have hk := zOk_t c hk
      refine zr_aload_n h dX11_read_28 0 rfl rfl ?_
      refine zr_getR h zfo_X11_47 lC_0 rfl dX11_read_29 ?_
      refine zr_iload h dX11_read_32 2 rfl ?_
      refine zr_callVp h lC_30 zcw_X11_168 (by decide) (c_X6_lengthOf E M_20 r_6 _ (zOk_bind hk)) rfl rfl (Nat.le_of_ble_eq_true rfl) dX11_read_34 (fun r_34 hk => ?_)
      refine zr_goto (tgt := 50) h dX11_read_37 (by decide) ?_
      have hk := zOk_some hk
      exact zr_iret h dX11_read_50 ⟨_, rfl, hk⟩
    · have hk := zOk_f c hk
      refine zr_aload_n h dX11_read_40 0 rfl rfl ?_
      refine zr_getR h zfo_X11_47 lC_0 rfl dX11_read_41 ?_
      refine zr_iload h dX11_read_44 2 rfl ?_
      refine zr_iload_n h dX11_read_46 1 rfl rfl ?_
      refine zr_callVp h lC_30 zcw_X11_171 (by decide) (c_X6_signAt E M_20 r_6 x3 _ (zOk_bind hk)) rfl rfl (Nat.le_of_ble_eq_true rfl) dX11_read_47 (fun r_47 hk => ?_)
      have hk := zOk_some hk
      exact zr_iret h dX11_read_50 ⟨_, rfl, hk⟩
theorem dX11_findTapePiece_0 : decode cX11_findTapePiece 0 = .ok (.aload_n 0, 1) := by decide +kernel
theorem dX11_findTapePiece_1 : decode cX11_findTapePiece 1 = .ok (.getfield 10, 3) := by decide +kernel
theorem dX11_findTapePiece_4 : decode cX11_findTapePiece 4 = .ok (.invokevirtual 99, 3) := by decide +kernel
theorem dX11_findTapePiece_7 : decode cX11_findTapePiece 7 = .ok (.istore_n 1, 1) := by decide +kernel
theorem dX11_findTapePiece_8 : decode cX11_findTapePiece 8 = .ok (.iload_n 1, 1) := by decide +kernel
theorem dX11_findTapePiece_9 : decode cX11_findTapePiece 9 = .ok (.iconst 1, 1) := by decide +kernel
theorem dX11_findTapePiece_10 : decode cX11_findTapePiece 10 = .ok (.if_icmp .lt 13, 3) := by decide +kernel
theorem dX11_findTapePiece_13 : decode cX11_findTapePiece 13 = .ok (.iload_n 1, 1) := by decide +kernel
theorem dX11_findTapePiece_14 : decode cX11_findTapePiece 14 = .ok (.bipush 7, 2) := by decide +kernel
theorem dX11_findTapePiece_16 : decode cX11_findTapePiece 16 = .ok (.if_icmp .gt 7, 3) := by decide +kernel
theorem dX11_findTapePiece_19 : decode cX11_findTapePiece 19 = .ok (.iconst 1, 1) := by decide +kernel
theorem dX11_findTapePiece_20 : decode cX11_findTapePiece 20 = .ok (.goto 4, 3) := by decide +kernel
theorem dX11_findTapePiece_23 : decode cX11_findTapePiece 23 = .ok (.iconst 0, 1) := by decide +kernel
theorem dX11_findTapePiece_24 : decode cX11_findTapePiece 24 = .ok (.istore_n 2, 1) := by decide +kernel
theorem dX11_findTapePiece_25 : decode cX11_findTapePiece 25 = .ok (.iconst 0, 1) := by decide +kernel
theorem dX11_findTapePiece_26 : decode cX11_findTapePiece 26 = .ok (.istore_n 3, 1) := by decide +kernel
theorem dX11_findTapePiece_27 : decode cX11_findTapePiece 27 = .ok (.iload_n 3, 1) := by decide +kernel
theorem dX11_findTapePiece_28 : decode cX11_findTapePiece 28 = .ok (.iload_n 1, 1) := by decide +kernel
theorem dX11_findTapePiece_29 : decode cX11_findTapePiece 29 = .ok (.if_icmp .ge 69, 3) := by decide +kernel
theorem dX11_findTapePiece_32 : decode cX11_findTapePiece 32 = .ok (.iload_n 2, 1) := by decide +kernel
theorem dX11_findTapePiece_33 : decode cX11_findTapePiece 33 = .ok (.ifCond .eq 65, 3) := by decide +kernel
theorem dX11_findTapePiece_36 : decode cX11_findTapePiece 36 = .ok (.aload_n 0, 1) := by decide +kernel
theorem dX11_findTapePiece_37 : decode cX11_findTapePiece 37 = .ok (.getfield 19, 3) := by decide +kernel
theorem dX11_findTapePiece_40 : decode cX11_findTapePiece 40 = .ok (.aload_n 0, 1) := by decide +kernel
theorem dX11_findTapePiece_41 : decode cX11_findTapePiece 41 = .ok (.getfield 10, 3) := by decide +kernel
theorem dX11_findTapePiece_44 : decode cX11_findTapePiece 44 = .ok (.iload_n 3, 1) := by decide +kernel
theorem dX11_findTapePiece_45 : decode cX11_findTapePiece 45 = .ok (.invokevirtual 315, 3) := by decide +kernel
theorem dX11_findTapePiece_48 : decode cX11_findTapePiece 48 = .ok (.invokestatic 318, 3) := by decide +kernel
theorem dX11_findTapePiece_51 : decode cX11_findTapePiece 51 = .ok (.invokevirtual 144, 3) := by decide +kernel
theorem dX11_findTapePiece_54 : decode cX11_findTapePiece 54 = .ok (.istore 4, 2) := by decide +kernel
theorem dX11_findTapePiece_56 : decode cX11_findTapePiece 56 = .ok (.iload 4, 2) := by decide +kernel
theorem dX11_findTapePiece_58 : decode cX11_findTapePiece 58 = .ok (.iconst (-1), 1) := by decide +kernel
theorem dX11_findTapePiece_59 : decode cX11_findTapePiece 59 = .ok (.if_icmp .ne 8, 3) := by decide +kernel
theorem dX11_findTapePiece_62 : decode cX11_findTapePiece 62 = .ok (.iconst 0, 1) := by decide +kernel
theorem dX11_findTapePiece_63 : decode cX11_findTapePiece 63 = .ok (.istore_n 2, 1) := by decide +kernel
theorem dX11_findTapePiece_64 : decode cX11_findTapePiece 64 = .ok (.goto 28, 3) := by decide +kernel
theorem dX11_findTapePiece_67 : decode cX11_findTapePiece 67 = .ok (.iload_n 3, 1) := by decide +kernel
theorem dX11_findTapePiece_68 : decode cX11_findTapePiece 68 = .ok (.ifCond .ne 15, 3) := by decide +kernel
theorem dX11_findTapePiece_71 : decode cX11_findTapePiece 71 = .ok (.aload_n 0, 1) := by decide +kernel
theorem dX11_findTapePiece_72 : decode cX11_findTapePiece 72 = .ok (.getfield 47, 3) := by decide +kernel
theorem dX11_findTapePiece_75 : decode cX11_findTapePiece 75 = .ok (.iload 4, 2) := by decide +kernel
theorem dX11_findTapePiece_77 : decode cX11_findTapePiece 77 = .ok (.invokevirtual 321, 3) := by decide +kernel
theorem dX11_findTapePiece_80 : decode cX11_findTapePiece 80 = .ok (.goto 12, 3) := by decide +kernel
theorem dX11_findTapePiece_83 : decode cX11_findTapePiece 83 = .ok (.aload_n 0, 1) := by decide +kernel
theorem dX11_findTapePiece_84 : decode cX11_findTapePiece 84 = .ok (.getfield 47, 3) := by decide +kernel
theorem dX11_findTapePiece_87 : decode cX11_findTapePiece 87 = .ok (.iload 4, 2) := by decide +kernel
theorem dX11_findTapePiece_89 : decode cX11_findTapePiece 89 = .ok (.invokevirtual 324, 3) := by decide +kernel
theorem dX11_findTapePiece_92 : decode cX11_findTapePiece 92 = .ok (.iinc 3 1, 3) := by decide +kernel
theorem dX11_findTapePiece_95 : decode cX11_findTapePiece 95 = .ok (.goto (-68), 3) := by decide +kernel
theorem dX11_findTapePiece_98 : decode cX11_findTapePiece 98 = .ok (.aload_n 0, 1) := by decide +kernel
theorem dX11_findTapePiece_99 : decode cX11_findTapePiece 99 = .ok (.getfield 10, 3) := by decide +kernel
theorem dX11_findTapePiece_102 : decode cX11_findTapePiece 102 = .ok (.iconst 0, 1) := by decide +kernel
theorem dX11_findTapePiece_103 : decode cX11_findTapePiece 103 = .ok (.invokevirtual 107, 3) := by decide +kernel
theorem dX11_findTapePiece_106 : decode cX11_findTapePiece 106 = .ok (.pop, 1) := by decide +kernel
theorem dX11_findTapePiece_107 : decode cX11_findTapePiece 107 = .ok (.iload_n 2, 1) := by decide +kernel
theorem dX11_findTapePiece_108 : decode cX11_findTapePiece 108 = .ok (.ireturn, 1) := by decide +kernel
noncomputable def f_X11_findTapePiece_L27 (x1 : Int32) (s : (ZMem × Int32 × Int32)) : Option ((ZMem × Int32 × Int32) ⊕ (ZMem × Int32)) := if x1 ≤ s.2.2 then some (.inr (s.1, s.2.1)) else if s.2.1 = (zI 0) then some (.inr (s.1, s.2.1)) else zbind (f_X8_byteAt s.1 s.2.2) (fun r_45 => zbind (f_X11_letterOf s.1 r_45) (fun r_48 => zbind (f_X0_signOf s.1 r_48) (fun r_51 => if r_51 = (zI (-1)) then zbnd (s.2.2 + (zI 1)) (fun x3_92 => some (.inl (s.1, (zI 0), x3_92))) else if s.2.2 = (zI 0) then zbind (f_X6_startPiece s.1 r_51) (fun M_77 => zbnd (s.2.2 + (zI 1)) (fun x3_92 => some (.inl (M_77, s.2.1, x3_92)))) else zbind (f_X6_growPiece s.1 r_51) (fun M_89 => zbnd (s.2.2 + (zI 1)) (fun x3_92 => some (.inl (M_89, s.2.1, x3_92)))))))
set_option maxRecDepth 100000 in
set_option maxHeartbeats 4000000 in
theorem w_X11_findTapePiece_L27 {E : ZEv} {G : ZG} {K : (ZMem × Int32) → Prop} (h : zRu lyC E G (zRm K) cX11_findTapePiece RX11 5 (some .boolean) 2) (x1 : Int32) (s : (ZMem × Int32 × Int32)) (hk : zOk (zloop (f_X11_findTapePiece_L27 x1) s) (fun e => G e.1 98 [(0, zrf E 0), (2, .int e.2)] [])) : G s.1 27 [(0, zrf E 0), (1, .int x1), (2, .int s.2.1), (3, .int s.2.2)] [] := by
  refine zloop_walk (P := fun s => G s.1 27 [(0, zrf E 0), (1, .int x1), (2, .int s.2.1), (3, .int s.2.2)] []) hk (fun s hk => ?_)
  unfold f_X11_findTapePiece_L27 at hk
  refine zr_iload_n h dX11_findTapePiece_27 3 rfl rfl ?_
  refine zr_iload_n h dX11_findTapePiece_28 1 rfl rfl ?_
  refine zr_icmp_ge (tgt := 98) h dX11_findTapePiece_29 (by decide) (fun c => ?_) (fun c => ?_)
  · have hk := zOk_t c hk
    have hk := zOk_some hk
    exact zr_weak h [0, 2] rfl hk
  · have hk := zOk_f c hk
    refine zr_iload_n h dX11_findTapePiece_32 2 rfl rfl ?_
    refine zr_if_eq (tgt := 98) h dX11_findTapePiece_33 (by decide) (fun c => ?_) (fun c => ?_)
    · have hk := zOk_t c hk
      have hk := zOk_some hk
      exact zr_weak h [0, 2] rfl hk
    · have hk := zOk_f c hk
      refine zr_aload_n h dX11_findTapePiece_36 0 rfl rfl ?_
      refine zr_getR h zfo_X11_19 lC_0 rfl dX11_findTapePiece_37 ?_
      refine zr_aload_n h dX11_findTapePiece_40 0 rfl rfl ?_
      refine zr_getR h zfo_X11_10 lC_0 rfl dX11_findTapePiece_41 ?_
      refine zr_iload_n h dX11_findTapePiece_44 3 rfl rfl ?_
      refine zr_callVp h lC_1 zcw_X11_315 (by decide) (c_X8_byteAt E s.1 s.2.2 _ (zOk_bind hk)) rfl rfl (Nat.le_of_ble_eq_true rfl) dX11_findTapePiece_45 (fun r_45 hk => ?_)
      refine zr_callSp h zcw_X11_318 (by decide) (c_X11_letterOf E s.1 r_45 _ (zOk_bind hk)) rfl rfl (Nat.le_of_ble_eq_true rfl) dX11_findTapePiece_48 (fun r_48 hk => ?_)
      refine zr_callVp h lC_3 zcw_X11_144 (by decide) (c_X0_signOf E s.1 r_48 _ (zOk_bind hk)) rfl rfl (Nat.le_of_ble_eq_true rfl) dX11_findTapePiece_51 (fun r_51 hk => ?_)
      refine zr_istore (L' := [(0, zrf E 0), (1, .int x1), (2, .int s.2.1), (3, .int s.2.2), (4, .int r_51)]) h [1, 2, 3, 4, 0] dX11_findTapePiece_54 (by decide) rfl ?_
      refine zr_iload h dX11_findTapePiece_56 4 rfl ?_
      refine zr_iconst (v := (zI (-1))) h dX11_findTapePiece_58 rfl ?_
      refine zr_icmp_ne (tgt := 67) h dX11_findTapePiece_59 (by decide) (fun c => ?_) (fun c => ?_)
      · have hk := zOk_t c hk
        refine zr_iconst (v := (zI 0)) h dX11_findTapePiece_62 rfl ?_
        refine zr_istore_n (L' := [(0, zrf E 0), (1, .int x1), (2, .int (zI 0)), (3, .int s.2.2)]) h [1, 2, 0, 3] dX11_findTapePiece_63 rfl (by decide) rfl ?_
        refine zr_goto (tgt := 92) h dX11_findTapePiece_64 (by decide) ?_
        obtain ⟨x3_92, ex⟩ : ∃ y : Int32, y = s.2.2 + (zI 1) := ⟨_, rfl⟩
        have hk := zOk_bnd ex hk
        refine zr_iinc (v := x3_92) (L' := [(0, zrf E 0), (1, .int x1), (2, .int (zI 0)), (3, .int x3_92)]) h 3 [1, 2, 3, 0] dX11_findTapePiece_92 rfl (by rw [ex]; rfl) (by decide) rfl ?_
        refine zr_goto (tgt := 27) h dX11_findTapePiece_95 (by decide) ?_
        have hk := zOk_some hk
        exact zr_weak h [0, 1, 2, 3] rfl hk
      · have hk := zOk_f c hk
        refine zr_iload_n h dX11_findTapePiece_67 3 rfl rfl ?_
        refine zr_if_ne (tgt := 83) h dX11_findTapePiece_68 (by decide) (fun c => ?_) (fun c => ?_)
        · have hk := zOk_t c hk
          refine zr_aload_n h dX11_findTapePiece_71 0 rfl rfl ?_
          refine zr_getR h zfo_X11_47 lC_0 rfl dX11_findTapePiece_72 ?_
          refine zr_iload h dX11_findTapePiece_75 4 rfl ?_
          refine zr_callVv h lC_30 zcw_X11_321 (by decide) (c_X6_startPiece E s.1 r_51 _ (zOk_bind hk)) rfl rfl (Nat.le_of_ble_eq_true rfl) dX11_findTapePiece_77 (fun M_77 hk => ?_)
          refine zr_goto (tgt := 92) h dX11_findTapePiece_80 (by decide) ?_
          obtain ⟨x3_92, ex⟩ : ∃ y : Int32, y = s.2.2 + (zI 1) := ⟨_, rfl⟩
          have hk := zOk_bnd ex hk
          refine zr_iinc (v := x3_92) (L' := [(0, zrf E 0), (1, .int x1), (2, .int s.2.1), (3, .int x3_92)]) h 3 [1, 2, 3, 0] dX11_findTapePiece_92 rfl (by rw [ex]; rfl) (by decide) rfl ?_
          refine zr_goto (tgt := 27) h dX11_findTapePiece_95 (by decide) ?_
          have hk := zOk_some hk
          exact zr_weak h [0, 1, 2, 3] rfl hk
        · have hk := zOk_f c hk
          refine zr_aload_n h dX11_findTapePiece_83 0 rfl rfl ?_
          refine zr_getR h zfo_X11_47 lC_0 rfl dX11_findTapePiece_84 ?_
          refine zr_iload h dX11_findTapePiece_87 4 rfl ?_
          refine zr_callVv h lC_30 zcw_X11_324 (by decide) (c_X6_growPiece E s.1 r_51 _ (zOk_bind hk)) rfl rfl (Nat.le_of_ble_eq_true rfl) dX11_findTapePiece_89 (fun M_89 hk => ?_)
          obtain ⟨x3_92, ex⟩ : ∃ y : Int32, y = s.2.2 + (zI 1) := ⟨_, rfl⟩
          have hk := zOk_bnd ex hk
          refine zr_iinc (v := x3_92) (L' := [(0, zrf E 0), (1, .int x1), (2, .int s.2.1), (3, .int x3_92)]) h 3 [1, 2, 3, 0] dX11_findTapePiece_92 rfl (by rw [ex]; rfl) (by decide) rfl ?_
          refine zr_goto (tgt := 27) h dX11_findTapePiece_95 (by decide) ?_
          have hk := zOk_some hk
          exact zr_weak h [0, 1, 2, 3] rfl hk
noncomputable def f_X11_findTapePiece_24 (M : ZMem) (x1 : Int32) (v0 : Int32) : Option (ZMem × Int32) := zbind (zloop (f_X11_findTapePiece_L27 x1) (M, v0, (zI 0))) (fun e27 => zbind (f_X8_cutTo e27.1 (zI 0)) (fun r_103 => zchk (zisB e27.2) (some (r_103.1, e27.2))))
set_option maxRecDepth 100000 in
set_option maxHeartbeats 4000000 in
theorem w_X11_findTapePiece_24 {E : ZEv} {G : ZG} {K : (ZMem × Int32) → Prop} (h : zRu lyC E G (zRm K) cX11_findTapePiece RX11 5 (some .boolean) 2) (M : ZMem) (x1 : Int32) (v0 : Int32) (hk : zOk (f_X11_findTapePiece_24 M x1 v0) K) : G M 24 [(0, zrf E 0), (1, .int x1)] [.int v0] := by
  unfold f_X11_findTapePiece_24 at hk
  refine zr_istore_n (L' := [(0, zrf E 0), (1, .int x1), (2, .int v0)]) h [1, 2, 0] dX11_findTapePiece_24 rfl (by decide) rfl ?_
  refine zr_iconst (v := (zI 0)) h dX11_findTapePiece_25 rfl ?_
  refine zr_istore_n (L' := [(0, zrf E 0), (1, .int x1), (2, .int v0), (3, .int (zI 0))]) h [1, 2, 3, 0] dX11_findTapePiece_26 rfl (by decide) rfl ?_
  refine w_X11_findTapePiece_L27 h x1 (M, v0, (zI 0)) (zOk_mono (zOk_bind hk) (fun e27 hk => ?_))
  refine zr_aload_n h dX11_findTapePiece_98 0 rfl rfl ?_
  refine zr_getR h zfo_X11_10 lC_0 rfl dX11_findTapePiece_99 ?_
  refine zr_iconst (v := (zI 0)) h dX11_findTapePiece_102 rfl ?_
  refine zr_callVm h lC_1 zcw_X11_107 (by decide) (c_X8_cutTo E e27.1 (zI 0) _ (zOk_bind hk)) rfl rfl (Nat.le_of_ble_eq_true rfl) dX11_findTapePiece_103 (fun r_103 hk => ?_)
  refine zr_pop h dX11_findTapePiece_106 rfl ?_
  refine zr_iload_n h dX11_findTapePiece_107 1 rfl rfl ?_
  have hb := zOk_chk hk
  have hk := hb.2
  have hk := zOk_some hk
  exact zr_zret h dX11_findTapePiece_108 hb.1 ⟨_, rfl, hk⟩
noncomputable def f_X11_findTapePiece_23 (M : ZMem) (x1 : Int32) : Option (ZMem × Int32) := f_X11_findTapePiece_24 M x1 (zI 0)
set_option maxRecDepth 100000 in
set_option maxHeartbeats 4000000 in
theorem w_X11_findTapePiece_23 {E : ZEv} {G : ZG} {K : (ZMem × Int32) → Prop} (h : zRu lyC E G (zRm K) cX11_findTapePiece RX11 5 (some .boolean) 2) (M : ZMem) (x1 : Int32) (hk : zOk (f_X11_findTapePiece_23 M x1) K) : G M 23 [(0, zrf E 0), (1, .int x1)] [] := by
  unfold f_X11_findTapePiece_23 at hk
  refine zr_iconst (v := (zI 0)) h dX11_findTapePiece_23 rfl ?_
  exact w_X11_findTapePiece_24 h M x1 (zI 0) hk
noncomputable def f_X11_findTapePiece (M : ZMem) : Option (ZMem × Int32) := zbind (f_X8_used M) (fun r_4 => if r_4 < (zI 1) then f_X11_findTapePiece_23 M r_4 else if (zI 7) < r_4 then f_X11_findTapePiece_23 M r_4 else f_X11_findTapePiece_24 M r_4 (zI 1))
set_option maxRecDepth 100000 in
set_option maxHeartbeats 4000000 in
theorem c_X11_findTapePiece (E : ZEv) (M : ZMem) (K : ZMem × Int32 → Prop) (hk : zOk (f_X11_findTapePiece M) K) : zCon lyC E yX11_findTapePiece cX11_findTapePiece 5 (some .boolean) 2 [zrf E 0] M (zRm K) := by
  refine zcon_of (L0 := [(0, zrf E 0)]) (by decide) rfl (Nat.le_of_ble_eq_true rfl) (fun G h => ?_)
  have h : zRu lyC E G (zRm K) cX11_findTapePiece RX11 5 (some .boolean) 2 := h
  unfold f_X11_findTapePiece at hk
  refine zr_aload_n h dX11_findTapePiece_0 0 rfl rfl ?_
  refine zr_getR h zfo_X11_10 lC_0 rfl dX11_findTapePiece_1 ?_
  refine zr_callVp h lC_1 zcw_X11_99 (by decide) (c_X8_used E M _ (zOk_bind hk)) rfl rfl (Nat.le_of_ble_eq_true rfl) dX11_findTapePiece_4 (fun r_4 hk => ?_)
  refine zr_istore_n (L' := [(0, zrf E 0), (1, .int r_4)]) h [1, 0] dX11_findTapePiece_7 rfl (by decide) rfl ?_
  refine zr_iload_n h dX11_findTapePiece_8 1 rfl rfl ?_
  refine zr_iconst (v := (zI 1)) h dX11_findTapePiece_9 rfl ?_
  refine zr_icmp_lt (tgt := 23) h dX11_findTapePiece_10 (by decide) (fun c => ?_) (fun c => ?_)
  · have hk := zOk_t c hk
    exact w_X11_findTapePiece_23 h M r_4 hk
  · have hk := zOk_f c hk
    refine zr_iload_n h dX11_findTapePiece_13 1 rfl rfl ?_
    refine zr_bipush (v := (zI 7)) h dX11_findTapePiece_14 (by decide) ?_
    refine zr_icmp_gt (tgt := 23) h dX11_findTapePiece_16 (by decide) (fun c => ?_) (fun c => ?_)
    · have hk := zOk_t c hk
      exact w_X11_findTapePiece_23 h M r_4 hk
    · have hk := zOk_f c hk
      refine zr_iconst (v := (zI 1)) h dX11_findTapePiece_19 rfl ?_
      refine zr_goto (tgt := 24) h dX11_findTapePiece_20 (by decide) ?_
      exact w_X11_findTapePiece_24 h M r_4 (zI 1) hk
theorem dX11_comes_0 : decode cX11_comes 0 = .ok (.aload_n 0, 1) := by decide +kernel
theorem dX11_comes_1 : decode cX11_comes 1 = .ok (.invokevirtual 141, 3) := by decide +kernel
theorem dX11_comes_4 : decode cX11_comes 4 = .ok (.aload_n 0, 1) := by decide +kernel
theorem dX11_comes_5 : decode cX11_comes 5 = .ok (.invokevirtual 174, 3) := by decide +kernel
theorem dX11_comes_8 : decode cX11_comes 8 = .ok (.ifCond .eq 13, 3) := by decide +kernel
theorem dX11_comes_11 : decode cX11_comes 11 = .ok (.aload_n 0, 1) := by decide +kernel
theorem dX11_comes_12 : decode cX11_comes 12 = .ok (.getfield 47, 3) := by decide +kernel
theorem dX11_comes_15 : decode cX11_comes 15 = .ok (.invokevirtual 177, 3) := by decide +kernel
theorem dX11_comes_18 : decode cX11_comes 18 = .ok (.goto 4, 3) := by decide +kernel
theorem dX11_comes_21 : decode cX11_comes 21 = .ok (.iconst (-1), 1) := by decide +kernel
theorem dX11_comes_22 : decode cX11_comes 22 = .ok (.ireturn, 1) := by decide +kernel
noncomputable def f_X11_comes (M : ZMem) : Option (ZMem × Int32) := zbind (f_X11_freshenScript M) (fun M_1 => zbind (f_X11_findTapePiece M_1) (fun r_5 => if r_5.2 = (zI 0) then some (r_5.1, (zI (-1))) else zbind (f_X6_foundTimes r_5.1) (fun r_15 => some (r_5.1, r_15))))
set_option maxRecDepth 100000 in
set_option maxHeartbeats 4000000 in
theorem c_X11_comes (E : ZEv) (M : ZMem) (K : ZMem × Int32 → Prop) (hk : zOk (f_X11_comes M) K) : zCon lyC E yX11_comes cX11_comes 1 (some .int) 7 [zrf E 0] M (zRm K) := by
  refine zcon_of (L0 := [(0, zrf E 0)]) (by decide) rfl (Nat.le_of_ble_eq_true rfl) (fun G h => ?_)
  have h : zRu lyC E G (zRm K) cX11_comes RX11 1 (some .int) 7 := h
  unfold f_X11_comes at hk
  refine zr_aload_n h dX11_comes_0 0 rfl rfl ?_
  refine zr_callVv h lC_0 zcw_X11_141 (by decide) (c_X11_freshenScript E M _ (zOk_bind hk)) rfl rfl (Nat.le_of_ble_eq_true rfl) dX11_comes_1 (fun M_1 hk => ?_)
  refine zr_aload_n h dX11_comes_4 0 rfl rfl ?_
  refine zr_callVm h lC_0 zcw_X11_174 (by decide) (c_X11_findTapePiece E M_1 _ (zOk_bind hk)) rfl rfl (Nat.le_of_ble_eq_true rfl) dX11_comes_5 (fun r_5 hk => ?_)
  refine zr_if_eq (tgt := 21) h dX11_comes_8 (by decide) (fun c => ?_) (fun c => ?_)
  · have hk := zOk_t c hk
    refine zr_iconst (v := (zI (-1))) h dX11_comes_21 rfl ?_
    have hk := zOk_some hk
    exact zr_iret h dX11_comes_22 ⟨_, rfl, hk⟩
  · have hk := zOk_f c hk
    refine zr_aload_n h dX11_comes_11 0 rfl rfl ?_
    refine zr_getR h zfo_X11_47 lC_0 rfl dX11_comes_12 ?_
    refine zr_callVp h lC_30 zcw_X11_177 (by decide) (c_X6_foundTimes E r_5.1 _ (zOk_bind hk)) rfl rfl (Nat.le_of_ble_eq_true rfl) dX11_comes_15 (fun r_15 hk => ?_)
    refine zr_goto (tgt := 22) h dX11_comes_18 (by decide) ?_
    have hk := zOk_some hk
    exact zr_iret h dX11_comes_22 ⟨_, rfl, hk⟩
theorem dX11_next_0 : decode cX11_next 0 = .ok (.aload_n 0, 1) := by decide +kernel
theorem dX11_next_1 : decode cX11_next 1 = .ok (.invokevirtual 141, 3) := by decide +kernel
theorem dX11_next_4 : decode cX11_next 4 = .ok (.aload_n 0, 1) := by decide +kernel
theorem dX11_next_5 : decode cX11_next 5 = .ok (.invokevirtual 174, 3) := by decide +kernel
theorem dX11_next_8 : decode cX11_next 8 = .ok (.ifCond .eq 13, 3) := by decide +kernel
theorem dX11_next_11 : decode cX11_next 11 = .ok (.aload_n 0, 1) := by decide +kernel
theorem dX11_next_12 : decode cX11_next 12 = .ok (.getfield 47, 3) := by decide +kernel
theorem dX11_next_15 : decode cX11_next 15 = .ok (.invokevirtual 180, 3) := by decide +kernel
theorem dX11_next_18 : decode cX11_next 18 = .ok (.goto 4, 3) := by decide +kernel
theorem dX11_next_21 : decode cX11_next 21 = .ok (.iconst (-1), 1) := by decide +kernel
theorem dX11_next_22 : decode cX11_next 22 = .ok (.ireturn, 1) := by decide +kernel
noncomputable def f_X11_next (M : ZMem) : Option (ZMem × Int32) := zbind (f_X11_freshenScript M) (fun M_1 => zbind (f_X11_findTapePiece M_1) (fun r_5 => if r_5.2 = (zI 0) then some (r_5.1, (zI (-1))) else zbind (f_X6_followers r_5.1) (fun r_15 => some (r_5.1, r_15))))
set_option maxRecDepth 100000 in
set_option maxHeartbeats 4000000 in
theorem c_X11_next (E : ZEv) (M : ZMem) (K : ZMem × Int32 → Prop) (hk : zOk (f_X11_next M) K) : zCon lyC E yX11_next cX11_next 1 (some .int) 7 [zrf E 0] M (zRm K) := by
  refine zcon_of (L0 := [(0, zrf E 0)]) (by decide) rfl (Nat.le_of_ble_eq_true rfl) (fun G h => ?_)
  have h : zRu lyC E G (zRm K) cX11_next RX11 1 (some .int) 7 := h
  unfold f_X11_next at hk
  refine zr_aload_n h dX11_next_0 0 rfl rfl ?_
  refine zr_callVv h lC_0 zcw_X11_141 (by decide) (c_X11_freshenScript E M _ (zOk_bind hk)) rfl rfl (Nat.le_of_ble_eq_true rfl) dX11_next_1 (fun M_1 hk => ?_)
  refine zr_aload_n h dX11_next_4 0 rfl rfl ?_
  refine zr_callVm h lC_0 zcw_X11_174 (by decide) (c_X11_findTapePiece E M_1 _ (zOk_bind hk)) rfl rfl (Nat.le_of_ble_eq_true rfl) dX11_next_5 (fun r_5 hk => ?_)
  refine zr_if_eq (tgt := 21) h dX11_next_8 (by decide) (fun c => ?_) (fun c => ?_)
  · have hk := zOk_t c hk
    refine zr_iconst (v := (zI (-1))) h dX11_next_21 rfl ?_
    have hk := zOk_some hk
    exact zr_iret h dX11_next_22 ⟨_, rfl, hk⟩
  · have hk := zOk_f c hk
    refine zr_aload_n h dX11_next_11 0 rfl rfl ?_
    refine zr_getR h zfo_X11_47 lC_0 rfl dX11_next_12 ?_
    refine zr_callVp h lC_30 zcw_X11_180 (by decide) (c_X6_followers E r_5.1 _ (zOk_bind hk)) rfl rfl (Nat.le_of_ble_eq_true rfl) dX11_next_15 (fun r_15 hk => ?_)
    refine zr_goto (tgt := 22) h dX11_next_18 (by decide) ?_
    have hk := zOk_some hk
    exact zr_iret h dX11_next_22 ⟨_, rfl, hk⟩
theorem dX11_rise_0 : decode cX11_rise 0 = .ok (.aload_n 0, 1) := by decide +kernel
theorem dX11_rise_1 : decode cX11_rise 1 = .ok (.iconst 2, 1) := by decide +kernel
theorem dX11_rise_2 : decode cX11_rise 2 = .ok (.iload_n 1, 1) := by decide +kernel
theorem dX11_rise_3 : decode cX11_rise 3 = .ok (.iconst 1, 1) := by decide +kernel
theorem dX11_rise_4 : decode cX11_rise 4 = .ok (.bipush 9, 2) := by decide +kernel
theorem dX11_rise_6 : decode cX11_rise 6 = .ok (.invokevirtual 154, 3) := by decide +kernel
theorem dX11_rise_9 : decode cX11_rise 9 = .ok (.ireturn, 1) := by decide +kernel
noncomputable def f_X11_rise (M : ZMem) (x1 : Int32) : Option (ZMem × Int32) := zbind (f_X11_changeSetting M (zI 2) x1 (zI 1) (zI 9)) (fun r_6 => some (r_6.1, r_6.2))
set_option maxRecDepth 100000 in
set_option maxHeartbeats 4000000 in
theorem c_X11_rise (E : ZEv) (M : ZMem) (x1 : Int32) (K : ZMem × Int32 → Prop) (hk : zOk (f_X11_rise M x1) K) : zCon lyC E yX11_rise cX11_rise 2 (some .int) 4 [zrf E 0, .int x1] M (zRm K) := by
  refine zcon_of (L0 := [(0, zrf E 0), (1, .int x1)]) (by decide) rfl (Nat.le_of_ble_eq_true rfl) (fun G h => ?_)
  have h : zRu lyC E G (zRm K) cX11_rise RX11 2 (some .int) 4 := h
  unfold f_X11_rise at hk
  refine zr_aload_n h dX11_rise_0 0 rfl rfl ?_
  refine zr_iconst (v := (zI 2)) h dX11_rise_1 rfl ?_
  refine zr_iload_n h dX11_rise_2 1 rfl rfl ?_
  refine zr_iconst (v := (zI 1)) h dX11_rise_3 rfl ?_
  refine zr_bipush (v := (zI 9)) h dX11_rise_4 (by decide) ?_
  refine zr_callVm h lC_0 zcw_X11_154 (by decide) (c_X11_changeSetting E M (zI 2) x1 (zI 1) (zI 9) _ (zOk_bind hk)) rfl rfl (Nat.le_of_ble_eq_true rfl) dX11_rise_6 (fun r_6 hk => ?_)
  have hk := zOk_some hk
  exact zr_iret h dX11_rise_9 ⟨_, rfl, hk⟩
theorem dX11_words_0 : decode cX11_words 0 = .ok (.aload_n 0, 1) := by decide +kernel
theorem dX11_words_1 : decode cX11_words 1 = .ok (.invokevirtual 141, 3) := by decide +kernel
theorem dX11_words_4 : decode cX11_words 4 = .ok (.aload_n 0, 1) := by decide +kernel
theorem dX11_words_5 : decode cX11_words 5 = .ok (.getfield 54, 3) := by decide +kernel
theorem dX11_words_8 : decode cX11_words 8 = .ok (.invokevirtual 183, 3) := by decide +kernel
theorem dX11_words_11 : decode cX11_words 11 = .ok (.ireturn, 1) := by decide +kernel
noncomputable def f_X11_words (M : ZMem) : Option (ZMem × Int32) := zbind (f_X11_freshenScript M) (fun M_1 => zbind (f_X2_held M_1) (fun r_8 => some (M_1, r_8)))
set_option maxRecDepth 100000 in
set_option maxHeartbeats 4000000 in
theorem c_X11_words (E : ZEv) (M : ZMem) (K : ZMem × Int32 → Prop) (hk : zOk (f_X11_words M) K) : zCon lyC E yX11_words cX11_words 1 (some .int) 7 [zrf E 0] M (zRm K) := by
  refine zcon_of (L0 := [(0, zrf E 0)]) (by decide) rfl (Nat.le_of_ble_eq_true rfl) (fun G h => ?_)
  have h : zRu lyC E G (zRm K) cX11_words RX11 1 (some .int) 7 := h
  unfold f_X11_words at hk
  refine zr_aload_n h dX11_words_0 0 rfl rfl ?_
  refine zr_callVv h lC_0 zcw_X11_141 (by decide) (c_X11_freshenScript E M _ (zOk_bind hk)) rfl rfl (Nat.le_of_ble_eq_true rfl) dX11_words_1 (fun M_1 hk => ?_)
  refine zr_aload_n h dX11_words_4 0 rfl rfl ?_
  refine zr_getR h zfo_X11_54 lC_0 rfl dX11_words_5 ?_
  refine zr_callVp h lC_34 zcw_X11_183 (by decide) (c_X2_held E M_1 _ (zOk_bind hk)) rfl rfl (Nat.le_of_ble_eq_true rfl) dX11_words_8 (fun r_8 hk => ?_)
  have hk := zOk_some hk
  exact zr_iret h dX11_words_11 ⟨_, rfl, hk⟩
theorem dX11_word_0 : decode cX11_word 0 = .ok (.aload_n 0, 1) := by decide +kernel
theorem dX11_word_1 : decode cX11_word 1 = .ok (.invokevirtual 141, 3) := by decide +kernel
theorem dX11_word_4 : decode cX11_word 4 = .ok (.aload_n 0, 1) := by decide +kernel
theorem dX11_word_5 : decode cX11_word 5 = .ok (.getfield 54, 3) := by decide +kernel
theorem dX11_word_8 : decode cX11_word 8 = .ok (.iload_n 1, 1) := by decide +kernel
theorem dX11_word_9 : decode cX11_word 9 = .ok (.iload_n 2, 1) := by decide +kernel
theorem dX11_word_10 : decode cX11_word 10 = .ok (.invokevirtual 186, 3) := by decide +kernel
theorem dX11_word_13 : decode cX11_word 13 = .ok (.ireturn, 1) := by decide +kernel
noncomputable def f_X11_word (M : ZMem) (x1 : Int32) (x2 : Int32) : Option (ZMem × Int32) := zbind (f_X11_freshenScript M) (fun M_1 => zbind (f_X2_wordFact M_1 x1 x2) (fun r_10 => some (M_1, r_10)))
set_option maxRecDepth 100000 in
set_option maxHeartbeats 4000000 in
theorem c_X11_word (E : ZEv) (M : ZMem) (x1 : Int32) (x2 : Int32) (K : ZMem × Int32 → Prop) (hk : zOk (f_X11_word M x1 x2) K) : zCon lyC E yX11_word cX11_word 3 (some .int) 7 [zrf E 0, .int x1, .int x2] M (zRm K) := by
  refine zcon_of (L0 := [(0, zrf E 0), (1, .int x1), (2, .int x2)]) (by decide) rfl (Nat.le_of_ble_eq_true rfl) (fun G h => ?_)
  have h : zRu lyC E G (zRm K) cX11_word RX11 3 (some .int) 7 := h
  unfold f_X11_word at hk
  refine zr_aload_n h dX11_word_0 0 rfl rfl ?_
  refine zr_callVv h lC_0 zcw_X11_141 (by decide) (c_X11_freshenScript E M _ (zOk_bind hk)) rfl rfl (Nat.le_of_ble_eq_true rfl) dX11_word_1 (fun M_1 hk => ?_)
  refine zr_aload_n h dX11_word_4 0 rfl rfl ?_
  refine zr_getR h zfo_X11_54 lC_0 rfl dX11_word_5 ?_
  refine zr_iload_n h dX11_word_8 1 rfl rfl ?_
  refine zr_iload_n h dX11_word_9 2 rfl rfl ?_
  refine zr_callVp h lC_34 zcw_X11_186 (by decide) (c_X2_wordFact E M_1 x1 x2 _ (zOk_bind hk)) rfl rfl (Nat.le_of_ble_eq_true rfl) dX11_word_10 (fun r_10 hk => ?_)
  have hk := zOk_some hk
  exact zr_iret h dX11_word_13 ⟨_, rfl, hk⟩
theorem dX11_rank_0 : decode cX11_rank 0 = .ok (.aload_n 0, 1) := by decide +kernel
theorem dX11_rank_1 : decode cX11_rank 1 = .ok (.invokevirtual 141, 3) := by decide +kernel
theorem dX11_rank_4 : decode cX11_rank 4 = .ok (.aload_n 0, 1) := by decide +kernel
theorem dX11_rank_5 : decode cX11_rank 5 = .ok (.getfield 54, 3) := by decide +kernel
theorem dX11_rank_8 : decode cX11_rank 8 = .ok (.iload_n 1, 1) := by decide +kernel
theorem dX11_rank_9 : decode cX11_rank 9 = .ok (.invokevirtual 189, 3) := by decide +kernel
theorem dX11_rank_12 : decode cX11_rank 12 = .ok (.ireturn, 1) := by decide +kernel
noncomputable def f_X11_rank (M : ZMem) (x1 : Int32) : Option (ZMem × Int32) := zbind (f_X11_freshenScript M) (fun M_1 => zbind (f_X2_rankedWord M_1 x1) (fun r_9 => some (M_1, r_9)))
set_option maxRecDepth 100000 in
set_option maxHeartbeats 4000000 in
theorem c_X11_rank (E : ZEv) (M : ZMem) (x1 : Int32) (K : ZMem × Int32 → Prop) (hk : zOk (f_X11_rank M x1) K) : zCon lyC E yX11_rank cX11_rank 2 (some .int) 7 [zrf E 0, .int x1] M (zRm K) := by
  refine zcon_of (L0 := [(0, zrf E 0), (1, .int x1)]) (by decide) rfl (Nat.le_of_ble_eq_true rfl) (fun G h => ?_)
  have h : zRu lyC E G (zRm K) cX11_rank RX11 2 (some .int) 7 := h
  unfold f_X11_rank at hk
  refine zr_aload_n h dX11_rank_0 0 rfl rfl ?_
  refine zr_callVv h lC_0 zcw_X11_141 (by decide) (c_X11_freshenScript E M _ (zOk_bind hk)) rfl rfl (Nat.le_of_ble_eq_true rfl) dX11_rank_1 (fun M_1 hk => ?_)
  refine zr_aload_n h dX11_rank_4 0 rfl rfl ?_
  refine zr_getR h zfo_X11_54 lC_0 rfl dX11_rank_5 ?_
  refine zr_iload_n h dX11_rank_8 1 rfl rfl ?_
  refine zr_callVp h lC_34 zcw_X11_189 (by decide) (c_X2_rankedWord E M_1 x1 _ (zOk_bind hk)) rfl rfl (Nat.le_of_ble_eq_true rfl) dX11_rank_9 (fun r_9 hk => ?_)
  have hk := zOk_some hk
  exact zr_iret h dX11_rank_12 ⟨_, rfl, hk⟩
theorem dX11_stands_0 : decode cX11_stands 0 = .ok (.aload_n 0, 1) := by decide +kernel
theorem dX11_stands_1 : decode cX11_stands 1 = .ok (.invokevirtual 141, 3) := by decide +kernel
theorem dX11_stands_4 : decode cX11_stands 4 = .ok (.aload_n 0, 1) := by decide +kernel
theorem dX11_stands_5 : decode cX11_stands 5 = .ok (.getfield 19, 3) := by decide +kernel
theorem dX11_stands_8 : decode cX11_stands 8 = .ok (.iload_n 1, 1) := by decide +kernel
theorem dX11_stands_9 : decode cX11_stands 9 = .ok (.invokevirtual 144, 3) := by decide +kernel
theorem dX11_stands_12 : decode cX11_stands 12 = .ok (.istore_n 3, 1) := by decide +kernel
theorem dX11_stands_13 : decode cX11_stands 13 = .ok (.iload_n 3, 1) := by decide +kernel
theorem dX11_stands_14 : decode cX11_stands 14 = .ok (.iconst (-1), 1) := by decide +kernel
theorem dX11_stands_15 : decode cX11_stands 15 = .ok (.if_icmp .ne 5, 3) := by decide +kernel
theorem dX11_stands_18 : decode cX11_stands 18 = .ok (.iconst (-1), 1) := by decide +kernel
theorem dX11_stands_19 : decode cX11_stands 19 = .ok (.ireturn, 1) := by decide +kernel
theorem dX11_stands_20 : decode cX11_stands 20 = .ok (.iload_n 2, 1) := by decide +kernel
theorem dX11_stands_21 : decode cX11_stands 21 = .ok (.ifCond .ne 14, 3) := by decide +kernel
theorem dX11_stands_24 : decode cX11_stands 24 = .ok (.aload_n 0, 1) := by decide +kernel
theorem dX11_stands_25 : decode cX11_stands 25 = .ok (.getfield 47, 3) := by decide +kernel
theorem dX11_stands_28 : decode cX11_stands 28 = .ok (.iload_n 3, 1) := by decide +kernel
theorem dX11_stands_29 : decode cX11_stands 29 = .ok (.invokevirtual 192, 3) := by decide +kernel
theorem dX11_stands_32 : decode cX11_stands 32 = .ok (.goto 12, 3) := by decide +kernel
theorem dX11_stands_35 : decode cX11_stands 35 = .ok (.aload_n 0, 1) := by decide +kernel
theorem dX11_stands_36 : decode cX11_stands 36 = .ok (.getfield 54, 3) := by decide +kernel
theorem dX11_stands_39 : decode cX11_stands 39 = .ok (.iload_n 3, 1) := by decide +kernel
theorem dX11_stands_40 : decode cX11_stands 40 = .ok (.iload_n 2, 1) := by decide +kernel
theorem dX11_stands_41 : decode cX11_stands 41 = .ok (.invokevirtual 195, 3) := by decide +kernel
theorem dX11_stands_44 : decode cX11_stands 44 = .ok (.ireturn, 1) := by decide +kernel
noncomputable def f_X11_stands (M : ZMem) (x1 : Int32) (x2 : Int32) : Option (ZMem × Int32) := zbind (f_X11_freshenScript M) (fun M_1 => zbind (f_X0_signOf M_1 x1) (fun r_9 => if r_9 = (zI (-1)) then some (M_1, (zI (-1))) else if x2 = (zI 0) then zbind (f_X6_timesOf M_1 r_9) (fun r_29 => some (r_29.1, r_29.2)) else zbind (f_X2_timesOf M_1 r_9 x2) (fun r_41 => some (M_1, r_41))))
set_option maxRecDepth 100000 in
set_option maxHeartbeats 4000000 in
theorem c_X11_stands (E : ZEv) (M : ZMem) (x1 : Int32) (x2 : Int32) (K : ZMem × Int32 → Prop) (hk : zOk (f_X11_stands M x1 x2) K) : zCon lyC E yX11_stands cX11_stands 4 (some .int) 7 [zrf E 0, .int x1, .int x2] M (zRm K) := by
  refine zcon_of (L0 := [(0, zrf E 0), (1, .int x1), (2, .int x2)]) (by decide) rfl (Nat.le_of_ble_eq_true rfl) (fun G h => ?_)
  have h : zRu lyC E G (zRm K) cX11_stands RX11 4 (some .int) 7 := h
  unfold f_X11_stands at hk
  refine zr_aload_n h dX11_stands_0 0 rfl rfl ?_
  refine zr_callVv h lC_0 zcw_X11_141 (by decide) (c_X11_freshenScript E M _ (zOk_bind hk)) rfl rfl (Nat.le_of_ble_eq_true rfl) dX11_stands_1 (fun M_1 hk => ?_)
  refine zr_aload_n h dX11_stands_4 0 rfl rfl ?_
  refine zr_getR h zfo_X11_19 lC_0 rfl dX11_stands_5 ?_
  refine zr_iload_n h dX11_stands_8 1 rfl rfl ?_
  refine zr_callVp h lC_3 zcw_X11_144 (by decide) (c_X0_signOf E M_1 x1 _ (zOk_bind hk)) rfl rfl (Nat.le_of_ble_eq_true rfl) dX11_stands_9 (fun r_9 hk => ?_)
  refine zr_istore_n (L' := [(0, zrf E 0), (2, .int x2), (3, .int r_9)]) h [1, 3, 0] dX11_stands_12 rfl (by decide) rfl ?_
  refine zr_iload_n h dX11_stands_13 2 rfl rfl ?_
  refine zr_iconst (v := (zI (-1))) h dX11_stands_14 rfl ?_
  refine zr_icmp_ne (tgt := 20) h dX11_stands_15 (by decide) (fun c => ?_) (fun c => ?_)
  · have hk := zOk_t c hk
    refine zr_iconst (v := (zI (-1))) h dX11_stands_18 rfl ?_
    have hk := zOk_some hk
    exact zr_iret h dX11_stands_19 ⟨_, rfl, hk⟩
  · have hk := zOk_f c hk
    refine zr_iload_n h dX11_stands_20 1 rfl rfl ?_
    refine zr_if_ne (tgt := 35) h dX11_stands_21 (by decide) (fun c => ?_) (fun c => ?_)
    · have hk := zOk_t c hk
      refine zr_aload_n h dX11_stands_24 0 rfl rfl ?_
      refine zr_getR h zfo_X11_47 lC_0 rfl dX11_stands_25 ?_
      refine zr_iload_n h dX11_stands_28 2 rfl rfl ?_
      refine zr_callVm h lC_30 zcw_X11_192 (by decide) (c_X6_timesOf E M_1 r_9 _ (zOk_bind hk)) rfl rfl (Nat.le_of_ble_eq_true rfl) dX11_stands_29 (fun r_29 hk => ?_)
      refine zr_goto (tgt := 44) h dX11_stands_32 (by decide) ?_
      have hk := zOk_some hk
      exact zr_iret h dX11_stands_44 ⟨_, rfl, hk⟩
    · have hk := zOk_f c hk
      refine zr_aload_n h dX11_stands_35 0 rfl rfl ?_
      refine zr_getR h zfo_X11_54 lC_0 rfl dX11_stands_36 ?_
      refine zr_iload_n h dX11_stands_39 2 rfl rfl ?_
      refine zr_iload_n h dX11_stands_40 1 rfl rfl ?_
      refine zr_callVp h lC_34 zcw_X11_195 (by decide) (c_X2_timesOf E M_1 r_9 x2 _ (zOk_bind hk)) rfl rfl (Nat.le_of_ble_eq_true rfl) dX11_stands_41 (fun r_41 hk => ?_)
      have hk := zOk_some hk
      exact zr_iret h dX11_stands_44 ⟨_, rfl, hk⟩
theorem dX11_ahead_0 : decode cX11_ahead 0 = .ok (.aload_n 0, 1) := by decide +kernel
theorem dX11_ahead_1 : decode cX11_ahead 1 = .ok (.invokevirtual 141, 3) := by decide +kernel
theorem dX11_ahead_4 : decode cX11_ahead 4 = .ok (.aload_n 0, 1) := by decide +kernel
theorem dX11_ahead_5 : decode cX11_ahead 5 = .ok (.getfield 19, 3) := by decide +kernel
theorem dX11_ahead_8 : decode cX11_ahead 8 = .ok (.iload_n 1, 1) := by decide +kernel
theorem dX11_ahead_9 : decode cX11_ahead 9 = .ok (.invokevirtual 144, 3) := by decide +kernel
theorem dX11_ahead_12 : decode cX11_ahead 12 = .ok (.istore_n 3, 1) := by decide +kernel
theorem dX11_ahead_13 : decode cX11_ahead 13 = .ok (.aload_n 0, 1) := by decide +kernel
theorem dX11_ahead_14 : decode cX11_ahead 14 = .ok (.getfield 19, 3) := by decide +kernel
theorem dX11_ahead_17 : decode cX11_ahead 17 = .ok (.iload_n 2, 1) := by decide +kernel
theorem dX11_ahead_18 : decode cX11_ahead 18 = .ok (.invokevirtual 144, 3) := by decide +kernel
theorem dX11_ahead_21 : decode cX11_ahead 21 = .ok (.istore 4, 2) := by decide +kernel
theorem dX11_ahead_23 : decode cX11_ahead 23 = .ok (.iload_n 3, 1) := by decide +kernel
theorem dX11_ahead_24 : decode cX11_ahead 24 = .ok (.iconst (-1), 1) := by decide +kernel
theorem dX11_ahead_25 : decode cX11_ahead 25 = .ok (.if_icmp .eq 9, 3) := by decide +kernel
theorem dX11_ahead_28 : decode cX11_ahead 28 = .ok (.iload 4, 2) := by decide +kernel
theorem dX11_ahead_30 : decode cX11_ahead 30 = .ok (.iconst (-1), 1) := by decide +kernel
theorem dX11_ahead_31 : decode cX11_ahead 31 = .ok (.if_icmp .ne 7, 3) := by decide +kernel
theorem dX11_ahead_34 : decode cX11_ahead 34 = .ok (.iconst (-1), 1) := by decide +kernel
theorem dX11_ahead_35 : decode cX11_ahead 35 = .ok (.goto 13, 3) := by decide +kernel
theorem dX11_ahead_38 : decode cX11_ahead 38 = .ok (.aload_n 0, 1) := by decide +kernel
theorem dX11_ahead_39 : decode cX11_ahead 39 = .ok (.getfield 47, 3) := by decide +kernel
theorem dX11_ahead_42 : decode cX11_ahead 42 = .ok (.iload_n 3, 1) := by decide +kernel
theorem dX11_ahead_43 : decode cX11_ahead 43 = .ok (.iload 4, 2) := by decide +kernel
theorem dX11_ahead_45 : decode cX11_ahead 45 = .ok (.invokevirtual 197, 3) := by decide +kernel
theorem dX11_ahead_48 : decode cX11_ahead 48 = .ok (.ireturn, 1) := by decide +kernel
noncomputable def f_X11_ahead (M : ZMem) (x1 : Int32) (x2 : Int32) : Option (ZMem × Int32) := zbind (f_X11_freshenScript M) (fun M_1 => zbind (f_X0_signOf M_1 x1) (fun r_9 => zbind (f_X0_signOf M_1 x2) (fun r_18 => if r_9 = (zI (-1)) then some (M_1, (zI (-1))) else if r_18 = (zI (-1)) then some (M_1, (zI (-1))) else zbind (f_X6_timesAhead M_1 r_9 r_18) (fun r_45 => some (r_45.1, r_45.2)))))
set_option maxRecDepth 100000 in
set_option maxHeartbeats 4000000 in
theorem c_X11_ahead (E : ZEv) (M : ZMem) (x1 : Int32) (x2 : Int32) (K : ZMem × Int32 → Prop) (hk : zOk (f_X11_ahead M x1 x2) K) : zCon lyC E yX11_ahead cX11_ahead 5 (some .int) 7 [zrf E 0, .int x1, .int x2] M (zRm K) := by
  refine zcon_of (L0 := [(0, zrf E 0), (1, .int x1), (2, .int x2)]) (by decide) rfl (Nat.le_of_ble_eq_true rfl) (fun G h => ?_)
  have h : zRu lyC E G (zRm K) cX11_ahead RX11 5 (some .int) 7 := h
  unfold f_X11_ahead at hk
  refine zr_aload_n h dX11_ahead_0 0 rfl rfl ?_
  refine zr_callVv h lC_0 zcw_X11_141 (by decide) (c_X11_freshenScript E M _ (zOk_bind hk)) rfl rfl (Nat.le_of_ble_eq_true rfl) dX11_ahead_1 (fun M_1 hk => ?_)
  refine zr_aload_n h dX11_ahead_4 0 rfl rfl ?_
  refine zr_getR h zfo_X11_19 lC_0 rfl dX11_ahead_5 ?_
  refine zr_iload_n h dX11_ahead_8 1 rfl rfl ?_
  refine zr_callVp h lC_3 zcw_X11_144 (by decide) (c_X0_signOf E M_1 x1 _ (zOk_bind hk)) rfl rfl (Nat.le_of_ble_eq_true rfl) dX11_ahead_9 (fun r_9 hk => ?_)
  refine zr_istore_n (L' := [(0, zrf E 0), (2, .int x2), (3, .int r_9)]) h [1, 3, 0] dX11_ahead_12 rfl (by decide) rfl ?_
  refine zr_aload_n h dX11_ahead_13 0 rfl rfl ?_
  refine zr_getR h zfo_X11_19 lC_0 rfl dX11_ahead_14 ?_
  refine zr_iload_n h dX11_ahead_17 1 rfl rfl ?_
  refine zr_callVp h lC_3 zcw_X11_144 (by decide) (c_X0_signOf E M_1 x2 _ (zOk_bind hk)) rfl rfl (Nat.le_of_ble_eq_true rfl) dX11_ahead_18 (fun r_18 hk => ?_)
  refine zr_istore (L' := [(0, zrf E 0), (3, .int r_9), (4, .int r_18)]) h [1, 3, 0] dX11_ahead_21 (by decide) rfl ?_
  refine zr_iload_n h dX11_ahead_23 1 rfl rfl ?_
  refine zr_iconst (v := (zI (-1))) h dX11_ahead_24 rfl ?_
  refine zr_icmp_eq (tgt := 34) h dX11_ahead_25 (by decide) (fun c => ?_) (fun c => ?_)
  · have hk := zOk_t c hk
    refine zr_iconst (v := (zI (-1))) h dX11_ahead_34 rfl ?_
    refine zr_goto (tgt := 48) h dX11_ahead_35 (by decide) ?_
    have hk := zOk_some hk
    exact zr_iret h dX11_ahead_48 ⟨_, rfl, hk⟩
  · have hk := zOk_f c hk
    refine zr_iload h dX11_ahead_28 2 rfl ?_
    refine zr_iconst (v := (zI (-1))) h dX11_ahead_30 rfl ?_
    refine zr_icmp_ne (tgt := 38) h dX11_ahead_31 (by decide) (fun c => ?_) (fun c => ?_)
    · have hk := zOk_t c hk
      refine zr_iconst (v := (zI (-1))) h dX11_ahead_34 rfl ?_
      refine zr_goto (tgt := 48) h dX11_ahead_35 (by decide) ?_
      have hk := zOk_some hk
      exact zr_iret h dX11_ahead_48 ⟨_, rfl, hk⟩
    · have hk := zOk_f c hk
      refine zr_aload_n h dX11_ahead_38 0 rfl rfl ?_
      refine zr_getR h zfo_X11_47 lC_0 rfl dX11_ahead_39 ?_
      refine zr_iload_n h dX11_ahead_42 1 rfl rfl ?_
      refine zr_iload h dX11_ahead_43 2 rfl ?_
      refine zr_callVm h lC_30 zcw_X11_197 (by decide) (c_X6_timesAhead E M_1 r_9 r_18 _ (zOk_bind hk)) rfl rfl (Nat.le_of_ble_eq_true rfl) dX11_ahead_45 (fun r_45 hk => ?_)
      have hk := zOk_some hk
      exact zr_iret h dX11_ahead_48 ⟨_, rfl, hk⟩
theorem dX11_stem_0 : decode cX11_stem 0 = .ok (.aload_n 0, 1) := by decide +kernel
theorem dX11_stem_1 : decode cX11_stem 1 = .ok (.invokevirtual 141, 3) := by decide +kernel
theorem dX11_stem_4 : decode cX11_stem 4 = .ok (.iload_n 1, 1) := by decide +kernel
theorem dX11_stem_5 : decode cX11_stem 5 = .ok (.iconst (-1), 1) := by decide +kernel
theorem dX11_stem_6 : decode cX11_stem 6 = .ok (.if_icmp .ne 13, 3) := by decide +kernel
theorem dX11_stem_9 : decode cX11_stem 9 = .ok (.aload_n 0, 1) := by decide +kernel
theorem dX11_stem_10 : decode cX11_stem 10 = .ok (.getfield 54, 3) := by decide +kernel
theorem dX11_stem_13 : decode cX11_stem 13 = .ok (.invokevirtual 200, 3) := by decide +kernel
theorem dX11_stem_16 : decode cX11_stem 16 = .ok (.goto 12, 3) := by decide +kernel
theorem dX11_stem_19 : decode cX11_stem 19 = .ok (.aload_n 0, 1) := by decide +kernel
theorem dX11_stem_20 : decode cX11_stem 20 = .ok (.getfield 54, 3) := by decide +kernel
theorem dX11_stem_23 : decode cX11_stem 23 = .ok (.iload_n 1, 1) := by decide +kernel
theorem dX11_stem_24 : decode cX11_stem 24 = .ok (.iload_n 2, 1) := by decide +kernel
theorem dX11_stem_25 : decode cX11_stem 25 = .ok (.invokevirtual 203, 3) := by decide +kernel
theorem dX11_stem_28 : decode cX11_stem 28 = .ok (.ireturn, 1) := by decide +kernel
noncomputable def f_X11_stem (M : ZMem) (x1 : Int32) (x2 : Int32) : Option (ZMem × Int32) := zbind (f_X11_freshenScript M) (fun M_1 => if x1 = (zI (-1)) then zbind (f_X2_stemsHeld M_1) (fun r_13 => some (M_1, r_13)) else zbind (f_X2_stemFact M_1 x1 x2) (fun r_25 => some (M_1, r_25)))
set_option maxRecDepth 100000 in
set_option maxHeartbeats 4000000 in
theorem c_X11_stem (E : ZEv) (M : ZMem) (x1 : Int32) (x2 : Int32) (K : ZMem × Int32 → Prop) (hk : zOk (f_X11_stem M x1 x2) K) : zCon lyC E yX11_stem cX11_stem 3 (some .int) 7 [zrf E 0, .int x1, .int x2] M (zRm K) := by
  refine zcon_of (L0 := [(0, zrf E 0), (1, .int x1), (2, .int x2)]) (by decide) rfl (Nat.le_of_ble_eq_true rfl) (fun G h => ?_)
  have h : zRu lyC E G (zRm K) cX11_stem RX11 3 (some .int) 7 := h
  unfold f_X11_stem at hk
  refine zr_aload_n h dX11_stem_0 0 rfl rfl ?_
  refine zr_callVv h lC_0 zcw_X11_141 (by decide) (c_X11_freshenScript E M _ (zOk_bind hk)) rfl rfl (Nat.le_of_ble_eq_true rfl) dX11_stem_1 (fun M_1 hk => ?_)
  refine zr_iload_n h dX11_stem_4 1 rfl rfl ?_
  refine zr_iconst (v := (zI (-1))) h dX11_stem_5 rfl ?_
  refine zr_icmp_ne (tgt := 19) h dX11_stem_6 (by decide) (fun c => ?_) (fun c => ?_)
  · have hk := zOk_t c hk
    refine zr_aload_n h dX11_stem_9 0 rfl rfl ?_
    refine zr_getR h zfo_X11_54 lC_0 rfl dX11_stem_10 ?_
    refine zr_callVp h lC_34 zcw_X11_200 (by decide) (c_X2_stemsHeld E M_1 _ (zOk_bind hk)) rfl rfl (Nat.le_of_ble_eq_true rfl) dX11_stem_13 (fun r_13 hk => ?_)
    refine zr_goto (tgt := 28) h dX11_stem_16 (by decide) ?_
    have hk := zOk_some hk
    exact zr_iret h dX11_stem_28 ⟨_, rfl, hk⟩
  · have hk := zOk_f c hk
    refine zr_aload_n h dX11_stem_19 0 rfl rfl ?_
    refine zr_getR h zfo_X11_54 lC_0 rfl dX11_stem_20 ?_
    refine zr_iload_n h dX11_stem_23 1 rfl rfl ?_
    refine zr_iload_n h dX11_stem_24 2 rfl rfl ?_
    refine zr_callVp h lC_34 zcw_X11_203 (by decide) (c_X2_stemFact E M_1 x1 x2 _ (zOk_bind hk)) rfl rfl (Nat.le_of_ble_eq_true rfl) dX11_stem_25 (fun r_25 hk => ?_)
    have hk := zOk_some hk
    exact zr_iret h dX11_stem_28 ⟨_, rfl, hk⟩
theorem dX11_clue_0 : decode cX11_clue 0 = .ok (.aload_n 0, 1) := by decide +kernel
theorem dX11_clue_1 : decode cX11_clue 1 = .ok (.invokevirtual 141, 3) := by decide +kernel
theorem dX11_clue_4 : decode cX11_clue 4 = .ok (.aload_n 0, 1) := by decide +kernel
theorem dX11_clue_5 : decode cX11_clue 5 = .ok (.getfield 19, 3) := by decide +kernel
theorem dX11_clue_8 : decode cX11_clue 8 = .ok (.iload_n 1, 1) := by decide +kernel
theorem dX11_clue_9 : decode cX11_clue 9 = .ok (.invokevirtual 144, 3) := by decide +kernel
theorem dX11_clue_12 : decode cX11_clue 12 = .ok (.istore 4, 2) := by decide +kernel
theorem dX11_clue_14 : decode cX11_clue 14 = .ok (.aload_n 0, 1) := by decide +kernel
theorem dX11_clue_15 : decode cX11_clue 15 = .ok (.getfield 19, 3) := by decide +kernel
theorem dX11_clue_18 : decode cX11_clue 18 = .ok (.iload_n 2, 1) := by decide +kernel
theorem dX11_clue_19 : decode cX11_clue 19 = .ok (.invokevirtual 144, 3) := by decide +kernel
theorem dX11_clue_22 : decode cX11_clue 22 = .ok (.istore 5, 2) := by decide +kernel
theorem dX11_clue_24 : decode cX11_clue 24 = .ok (.iload 4, 2) := by decide +kernel
theorem dX11_clue_26 : decode cX11_clue 26 = .ok (.iconst (-1), 1) := by decide +kernel
theorem dX11_clue_27 : decode cX11_clue 27 = .ok (.if_icmp .eq 16, 3) := by decide +kernel
theorem dX11_clue_30 : decode cX11_clue 30 = .ok (.iload 5, 2) := by decide +kernel
theorem dX11_clue_32 : decode cX11_clue 32 = .ok (.iconst (-1), 1) := by decide +kernel
theorem dX11_clue_33 : decode cX11_clue 33 = .ok (.if_icmp .eq 10, 3) := by decide +kernel
theorem dX11_clue_36 : decode cX11_clue 36 = .ok (.iload 4, 2) := by decide +kernel
theorem dX11_clue_38 : decode cX11_clue 38 = .ok (.iload 5, 2) := by decide +kernel
theorem dX11_clue_40 : decode cX11_clue 40 = .ok (.if_icmp .ne 5, 3) := by decide +kernel
theorem dX11_clue_43 : decode cX11_clue 43 = .ok (.iconst (-1), 1) := by decide +kernel
theorem dX11_clue_44 : decode cX11_clue 44 = .ok (.ireturn, 1) := by decide +kernel
theorem dX11_clue_45 : decode cX11_clue 45 = .ok (.aload_n 0, 1) := by decide +kernel
theorem dX11_clue_46 : decode cX11_clue 46 = .ok (.getfield 40, 3) := by decide +kernel
theorem dX11_clue_49 : decode cX11_clue 49 = .ok (.iload_n 1, 1) := by decide +kernel
theorem dX11_clue_50 : decode cX11_clue 50 = .ok (.iload_n 2, 1) := by decide +kernel
theorem dX11_clue_51 : decode cX11_clue 51 = .ok (.iload_n 3, 1) := by decide +kernel
theorem dX11_clue_52 : decode cX11_clue 52 = .ok (.invokevirtual 206, 3) := by decide +kernel
theorem dX11_clue_55 : decode cX11_clue 55 = .ok (.istore 6, 2) := by decide +kernel
theorem dX11_clue_57 : decode cX11_clue 57 = .ok (.iload 6, 2) := by decide +kernel
theorem dX11_clue_59 : decode cX11_clue 59 = .ok (.iconst (-1), 1) := by decide +kernel
theorem dX11_clue_60 : decode cX11_clue 60 = .ok (.if_icmp .eq 8, 3) := by decide +kernel
theorem dX11_clue_63 : decode cX11_clue 63 = .ok (.aload_n 0, 1) := by decide +kernel
theorem dX11_clue_64 : decode cX11_clue 64 = .ok (.iconst 1, 1) := by decide +kernel
theorem dX11_clue_65 : decode cX11_clue 65 = .ok (.putfield 134, 3) := by decide +kernel
theorem dX11_clue_68 : decode cX11_clue 68 = .ok (.iload 6, 2) := by decide +kernel
theorem dX11_clue_70 : decode cX11_clue 70 = .ok (.ireturn, 1) := by decide +kernel
noncomputable def f_X11_clue (M : ZMem) (x1 : Int32) (x2 : Int32) (x3 : Int32) : Option (ZMem × Int32) := zbind (f_X11_freshenScript M) (fun M_1 => zbind (f_X0_signOf M_1 x1) (fun r_9 => zbind (f_X0_signOf M_1 x2) (fun r_19 => if r_9 = (zI (-1)) then some (M_1, (zI (-1))) else if r_19 = (zI (-1)) then some (M_1, (zI (-1))) else if r_9 = r_19 then some (M_1, (zI (-1))) else zbind (f_X1_tellClue M_1 x1 x2 x3) (fun r_52 => if r_52.2 = (zI (-1)) then some (r_52.1, r_52.2) else zbnd (zstI r_52.1 0 14 (zI 1)) (fun M_65 => some (M_65, r_52.2))))))
set_option maxRecDepth 100000 in
set_option maxHeartbeats 4000000 in
theorem c_X11_clue (E : ZEv) (M : ZMem) (x1 : Int32) (x2 : Int32) (x3 : Int32) (K : ZMem × Int32 → Prop) (hk : zOk (f_X11_clue M x1 x2 x3) K) : zCon lyC E yX11_clue cX11_clue 7 (some .int) 7 [zrf E 0, .int x1, .int x2, .int x3] M (zRm K) := by
  refine zcon_of (L0 := [(0, zrf E 0), (1, .int x1), (2, .int x2), (3, .int x3)]) (by decide) rfl (Nat.le_of_ble_eq_true rfl) (fun G h => ?_)
  have h : zRu lyC E G (zRm K) cX11_clue RX11 7 (some .int) 7 := h
  unfold f_X11_clue at hk
  refine zr_aload_n h dX11_clue_0 0 rfl rfl ?_
  refine zr_callVv h lC_0 zcw_X11_141 (by decide) (c_X11_freshenScript E M _ (zOk_bind hk)) rfl rfl (Nat.le_of_ble_eq_true rfl) dX11_clue_1 (fun M_1 hk => ?_)
  refine zr_aload_n h dX11_clue_4 0 rfl rfl ?_
  refine zr_getR h zfo_X11_19 lC_0 rfl dX11_clue_5 ?_
  refine zr_iload_n h dX11_clue_8 1 rfl rfl ?_
  refine zr_callVp h lC_3 zcw_X11_144 (by decide) (c_X0_signOf E M_1 x1 _ (zOk_bind hk)) rfl rfl (Nat.le_of_ble_eq_true rfl) dX11_clue_9 (fun r_9 hk => ?_)
  refine zr_istore (L' := [(0, zrf E 0), (1, .int x1), (2, .int x2), (3, .int x3), (4, .int r_9)]) h [1, 2, 3, 4, 0] dX11_clue_12 (by decide) rfl ?_
  refine zr_aload_n h dX11_clue_14 0 rfl rfl ?_
  refine zr_getR h zfo_X11_19 lC_0 rfl dX11_clue_15 ?_
  refine zr_iload_n h dX11_clue_18 2 rfl rfl ?_
  refine zr_callVp h lC_3 zcw_X11_144 (by decide) (c_X0_signOf E M_1 x2 _ (zOk_bind hk)) rfl rfl (Nat.le_of_ble_eq_true rfl) dX11_clue_19 (fun r_19 hk => ?_)
  refine zr_istore (L' := [(0, zrf E 0), (1, .int x1), (2, .int x2), (3, .int x3), (4, .int r_9), (5, .int r_19)]) h [1, 2, 3, 4, 5, 0] dX11_clue_22 (by decide) rfl ?_
  refine zr_iload h dX11_clue_24 4 rfl ?_
  refine zr_iconst (v := (zI (-1))) h dX11_clue_26 rfl ?_
  refine zr_icmp_eq (tgt := 43) h dX11_clue_27 (by decide) (fun c => ?_) (fun c => ?_)
  · have hk := zOk_t c hk
    refine zr_iconst (v := (zI (-1))) h dX11_clue_43 rfl ?_
    have hk := zOk_some hk
    exact zr_iret h dX11_clue_44 ⟨_, rfl, hk⟩
  · have hk := zOk_f c hk
    refine zr_iload h dX11_clue_30 5 rfl ?_
    refine zr_iconst (v := (zI (-1))) h dX11_clue_32 rfl ?_
    refine zr_icmp_eq (tgt := 43) h dX11_clue_33 (by decide) (fun c => ?_) (fun c => ?_)
    · have hk := zOk_t c hk
      refine zr_iconst (v := (zI (-1))) h dX11_clue_43 rfl ?_
      have hk := zOk_some hk
      exact zr_iret h dX11_clue_44 ⟨_, rfl, hk⟩
    · have hk := zOk_f c hk
      refine zr_iload h dX11_clue_36 4 rfl ?_
      refine zr_iload h dX11_clue_38 5 rfl ?_
      refine zr_icmp_ne (tgt := 45) h dX11_clue_40 (by decide) (fun c => ?_) (fun c => ?_)
      · have hk := zOk_t c hk
        refine zr_iconst (v := (zI (-1))) h dX11_clue_43 rfl ?_
        have hk := zOk_some hk
        exact zr_iret h dX11_clue_44 ⟨_, rfl, hk⟩
      · have hk := zOk_f c hk
        refine zr_aload_n h dX11_clue_45 0 rfl rfl ?_
        refine zr_getR h zfo_X11_40 lC_0 rfl dX11_clue_46 ?_
        refine zr_iload_n h dX11_clue_49 1 rfl rfl ?_
        refine zr_iload_n h dX11_clue_50 2 rfl rfl ?_
        refine zr_iload_n h dX11_clue_51 3 rfl rfl ?_
        refine zr_callVm h lC_20 zcw_X11_206 (by decide) (c_X1_tellClue E M_1 x1 x2 x3 _ (zOk_bind hk)) rfl rfl (Nat.le_of_ble_eq_true rfl) dX11_clue_52 (fun r_52 hk => ?_)
        refine zr_istore (L' := [(0, zrf E 0), (6, .int r_52.2)]) h [1, 0] dX11_clue_55 (by decide) rfl ?_
        refine zr_iload h dX11_clue_57 1 rfl ?_
        refine zr_iconst (v := (zI (-1))) h dX11_clue_59 rfl ?_
        refine zr_icmp_eq (tgt := 68) h dX11_clue_60 (by decide) (fun c => ?_) (fun c => ?_)
        · have hk := zOk_t c hk
          refine zr_iload h dX11_clue_68 1 rfl ?_
          have hk := zOk_some hk
          exact zr_iret h dX11_clue_70 ⟨_, rfl, hk⟩
        · have hk := zOk_f c hk
          refine zr_aload_n h dX11_clue_63 0 rfl rfl ?_
          refine zr_iconst (v := (zI 1)) h dX11_clue_64 rfl ?_
          refine zr_putZ h zfp_X11_134 lC_0 rfl (by decide) dX11_clue_65 ?_
          refine zr_mem (fun M_65 eM => ?_)
          have hk := zOk_bnd eM hk
          refine zr_iload h dX11_clue_68 1 rfl ?_
          have hk := zOk_some hk
          exact zr_iret h dX11_clue_70 ⟨_, rfl, hk⟩
theorem dX11_settleGrid_0 : decode cX11_settleGrid 0 = .ok (.aload_n 0, 1) := by decide +kernel
theorem dX11_settleGrid_1 : decode cX11_settleGrid 1 = .ok (.getfield 63, 3) := by decide +kernel
theorem dX11_settleGrid_4 : decode cX11_settleGrid 4 = .ok (.aload_n 0, 1) := by decide +kernel
theorem dX11_settleGrid_5 : decode cX11_settleGrid 5 = .ok (.getfield 19, 3) := by decide +kernel
theorem dX11_settleGrid_8 : decode cX11_settleGrid 8 = .ok (.aload_n 0, 1) := by decide +kernel
theorem dX11_settleGrid_9 : decode cX11_settleGrid 9 = .ok (.getfield 40, 3) := by decide +kernel
theorem dX11_settleGrid_12 : decode cX11_settleGrid 12 = .ok (.invokevirtual 359, 3) := by decide +kernel
theorem dX11_settleGrid_15 : decode cX11_settleGrid 15 = .ok (.aload_n 0, 1) := by decide +kernel
theorem dX11_settleGrid_16 : decode cX11_settleGrid 16 = .ok (.getfield 67, 3) := by decide +kernel
theorem dX11_settleGrid_19 : decode cX11_settleGrid 19 = .ok (.aload_n 0, 1) := by decide +kernel
theorem dX11_settleGrid_20 : decode cX11_settleGrid 20 = .ok (.getfield 19, 3) := by decide +kernel
theorem dX11_settleGrid_23 : decode cX11_settleGrid 23 = .ok (.aload_n 0, 1) := by decide +kernel
theorem dX11_settleGrid_24 : decode cX11_settleGrid 24 = .ok (.getfield 40, 3) := by decide +kernel
theorem dX11_settleGrid_27 : decode cX11_settleGrid 27 = .ok (.invokevirtual 359, 3) := by decide +kernel
theorem dX11_settleGrid_30 : decode cX11_settleGrid 30 = .ok (.aload_n 0, 1) := by decide +kernel
theorem dX11_settleGrid_31 : decode cX11_settleGrid 31 = .ok (.getfield 73, 3) := by decide +kernel
theorem dX11_settleGrid_34 : decode cX11_settleGrid 34 = .ok (.aload_n 0, 1) := by decide +kernel
theorem dX11_settleGrid_35 : decode cX11_settleGrid 35 = .ok (.getfield 19, 3) := by decide +kernel
theorem dX11_settleGrid_38 : decode cX11_settleGrid 38 = .ok (.aload_n 0, 1) := by decide +kernel
theorem dX11_settleGrid_39 : decode cX11_settleGrid 39 = .ok (.getfield 40, 3) := by decide +kernel
theorem dX11_settleGrid_42 : decode cX11_settleGrid 42 = .ok (.aload_n 0, 1) := by decide +kernel
theorem dX11_settleGrid_43 : decode cX11_settleGrid 43 = .ok (.getfield 63, 3) := by decide +kernel
theorem dX11_settleGrid_46 : decode cX11_settleGrid 46 = .ok (.aload_n 0, 1) := by decide +kernel
theorem dX11_settleGrid_47 : decode cX11_settleGrid 47 = .ok (.getfield 67, 3) := by decide +kernel
theorem dX11_settleGrid_50 : decode cX11_settleGrid 50 = .ok (.invokevirtual 362, 3) := by decide +kernel
theorem dX11_settleGrid_53 : decode cX11_settleGrid 53 = .ok (.aload_n 0, 1) := by decide +kernel
theorem dX11_settleGrid_54 : decode cX11_settleGrid 54 = .ok (.getfield 82, 3) := by decide +kernel
theorem dX11_settleGrid_57 : decode cX11_settleGrid 57 = .ok (.invokevirtual 365, 3) := by decide +kernel
theorem dX11_settleGrid_60 : decode cX11_settleGrid 60 = .ok (.aload_n 0, 1) := by decide +kernel
theorem dX11_settleGrid_61 : decode cX11_settleGrid 61 = .ok (.iconst 0, 1) := by decide +kernel
theorem dX11_settleGrid_62 : decode cX11_settleGrid 62 = .ok (.putfield 134, 3) := by decide +kernel
theorem dX11_settleGrid_65 : decode cX11_settleGrid 65 = .ok (.aload_n 0, 1) := by decide +kernel
theorem dX11_settleGrid_66 : decode cX11_settleGrid 66 = .ok (.iconst 1, 1) := by decide +kernel
theorem dX11_settleGrid_67 : decode cX11_settleGrid 67 = .ok (.putfield 256, 3) := by decide +kernel
theorem dX11_settleGrid_70 : decode cX11_settleGrid 70 = .ok (.return_, 1) := by decide +kernel
noncomputable def f_X11_settleGrid (M : ZMem) : Option ZMem := zbind (f_X5_settle 41 M) (fun M_12 => zbind (f_X5_settle 45 M_12) (fun M_27 => zbind (f_X9_settle M_27) (fun M_50 => zbind (f_X3_settle M_50) (fun M_57 => zbnd (zstI M_57 0 14 (zI 0)) (fun M_62 => zbnd (zstI M_62 0 15 (zI 1)) (fun M_67 => some M_67))))))
set_option maxRecDepth 100000 in
set_option maxHeartbeats 4000000 in
theorem c_X11_settleGrid (E : ZEv) (M : ZMem) (K : ZMem → Prop) (hk : zOk (f_X11_settleGrid M) K) : zCon lyC E yX11_settleGrid cX11_settleGrid 1 none 5 [zrf E 0] M (zRv K) := by
  refine zcon_of (L0 := [(0, zrf E 0)]) (by decide) rfl (Nat.le_of_ble_eq_true rfl) (fun G h => ?_)
  have h : zRu lyC E G (zRv K) cX11_settleGrid RX11 1 none 5 := h
  unfold f_X11_settleGrid at hk
  refine zr_aload_n h dX11_settleGrid_0 0 rfl rfl ?_
  refine zr_getR h zfo_X11_63 lC_0 rfl dX11_settleGrid_1 ?_
  refine zr_aload_n h dX11_settleGrid_4 0 rfl rfl ?_
  refine zr_getR h zfo_X11_19 lC_0 rfl dX11_settleGrid_5 ?_
  refine zr_aload_n h dX11_settleGrid_8 0 rfl rfl ?_
  refine zr_getR h zfo_X11_40 lC_0 rfl dX11_settleGrid_9 ?_
  refine zr_callVv h lC_41 zcw_X11_359 (by decide) (c_X5_settle E 41 lC_41 lC_42 lC_43 lC_44 M _ (zOk_bind hk)) rfl rfl (Nat.le_of_ble_eq_true rfl) dX11_settleGrid_12 (fun M_12 hk => ?_)
  refine zr_aload_n h dX11_settleGrid_15 0 rfl rfl ?_
  refine zr_getR h zfo_X11_67 lC_0 rfl dX11_settleGrid_16 ?_
  refine zr_aload_n h dX11_settleGrid_19 0 rfl rfl ?_
  refine zr_getR h zfo_X11_19 lC_0 rfl dX11_settleGrid_20 ?_
  refine zr_aload_n h dX11_settleGrid_23 0 rfl rfl ?_
  refine zr_getR h zfo_X11_40 lC_0 rfl dX11_settleGrid_24 ?_
  refine zr_callVv h lC_45 zcw_X11_359 (by decide) (c_X5_settle E 45 lC_45 lC_46 lC_47 lC_48 M_12 _ (zOk_bind hk)) rfl rfl (Nat.le_of_ble_eq_true rfl) dX11_settleGrid_27 (fun M_27 hk => ?_)
  refine zr_aload_n h dX11_settleGrid_30 0 rfl rfl ?_
  refine zr_getR h zfo_X11_73 lC_0 rfl dX11_settleGrid_31 ?_
  refine zr_aload_n h dX11_settleGrid_34 0 rfl rfl ?_
  refine zr_getR h zfo_X11_19 lC_0 rfl dX11_settleGrid_35 ?_
  refine zr_aload_n h dX11_settleGrid_38 0 rfl rfl ?_
  refine zr_getR h zfo_X11_40 lC_0 rfl dX11_settleGrid_39 ?_
  refine zr_aload_n h dX11_settleGrid_42 0 rfl rfl ?_
  refine zr_getR h zfo_X11_63 lC_0 rfl dX11_settleGrid_43 ?_
  refine zr_aload_n h dX11_settleGrid_46 0 rfl rfl ?_
  refine zr_getR h zfo_X11_67 lC_0 rfl dX11_settleGrid_47 ?_
  refine zr_callVv h lC_49 zcw_X11_362 (by decide) (c_X9_settle E M_27 _ (zOk_bind hk)) rfl rfl (Nat.le_of_ble_eq_true rfl) dX11_settleGrid_50 (fun M_50 hk => ?_)
  refine zr_aload_n h dX11_settleGrid_53 0 rfl rfl ?_
  refine zr_getR h zfo_X11_82 lC_0 rfl dX11_settleGrid_54 ?_
  refine zr_callVv h lC_54 zcw_X11_365 (by decide) (c_X3_settle E M_50 _ (zOk_bind hk)) rfl rfl (Nat.le_of_ble_eq_true rfl) dX11_settleGrid_57 (fun M_57 hk => ?_)
  refine zr_aload_n h dX11_settleGrid_60 0 rfl rfl ?_
  refine zr_iconst (v := (zI 0)) h dX11_settleGrid_61 rfl ?_
  refine zr_putZ h zfp_X11_134 lC_0 rfl (by decide) dX11_settleGrid_62 ?_
  refine zr_mem (fun M_62 eM => ?_)
  have hk := zOk_bnd eM hk
  refine zr_aload_n h dX11_settleGrid_65 0 rfl rfl ?_
  refine zr_iconst (v := (zI 1)) h dX11_settleGrid_66 rfl ?_
  refine zr_putZ h zfp_X11_256 lC_0 rfl (by decide) dX11_settleGrid_67 ?_
  refine zr_mem (fun M_67 eM => ?_)
  have hk := zOk_bnd eM hk
  have hk := zOk_some hk
  exact zr_vret h dX11_settleGrid_70 ⟨rfl, hk⟩
theorem dX11_freshenGrid_0 : decode cX11_freshenGrid 0 = .ok (.aload_n 0, 1) := by decide +kernel
theorem dX11_freshenGrid_1 : decode cX11_freshenGrid 1 = .ok (.getfield 95, 3) := by decide +kernel
theorem dX11_freshenGrid_4 : decode cX11_freshenGrid 4 = .ok (.ifCond .eq 7, 3) := by decide +kernel
theorem dX11_freshenGrid_7 : decode cX11_freshenGrid 7 = .ok (.aload_n 0, 1) := by decide +kernel
theorem dX11_freshenGrid_8 : decode cX11_freshenGrid 8 = .ok (.invokevirtual 336, 3) := by decide +kernel
theorem dX11_freshenGrid_11 : decode cX11_freshenGrid 11 = .ok (.aload_n 0, 1) := by decide +kernel
theorem dX11_freshenGrid_12 : decode cX11_freshenGrid 12 = .ok (.getfield 134, 3) := by decide +kernel
theorem dX11_freshenGrid_15 : decode cX11_freshenGrid 15 = .ok (.ifCond .eq 7, 3) := by decide +kernel
theorem dX11_freshenGrid_18 : decode cX11_freshenGrid 18 = .ok (.aload_n 0, 1) := by decide +kernel
theorem dX11_freshenGrid_19 : decode cX11_freshenGrid 19 = .ok (.invokevirtual 339, 3) := by decide +kernel
theorem dX11_freshenGrid_22 : decode cX11_freshenGrid 22 = .ok (.return_, 1) := by decide +kernel
noncomputable def f_X11_freshenGrid_11 (M : ZMem) : Option ZMem := if (M.1 0 14) = (zI 0) then some M else zbind (f_X11_settleGrid M) (fun M_19 => some M_19)
set_option maxRecDepth 100000 in
set_option maxHeartbeats 4000000 in
theorem w_X11_freshenGrid_11 {E : ZEv} {G : ZG} {K : ZMem → Prop} (h : zRu lyC E G (zRv K) cX11_freshenGrid RX11 1 none 6) (M : ZMem) (hk : zOk (f_X11_freshenGrid_11 M) K) : G M 11 [(0, zrf E 0)] [] := by
  unfold f_X11_freshenGrid_11 at hk
  refine zr_aload_n h dX11_freshenGrid_11 0 rfl rfl ?_
  refine zr_getI h zfo_X11_134 lC_0 rfl dX11_freshenGrid_12 ?_
  refine zr_if_eq (tgt := 22) h dX11_freshenGrid_15 (by decide) (fun c => ?_) (fun c => ?_)
  · have hk := zOk_t c hk
    have hk := zOk_some hk
    exact zr_vret h dX11_freshenGrid_22 ⟨rfl, hk⟩
  · have hk := zOk_f c hk
    refine zr_aload_n h dX11_freshenGrid_18 0 rfl rfl ?_
    refine zr_callVv h lC_0 zcw_X11_339 (by decide) (c_X11_settleGrid E M _ (zOk_bind hk)) rfl rfl (Nat.le_of_ble_eq_true rfl) dX11_freshenGrid_19 (fun M_19 hk => ?_)
    have hk := zOk_some hk
    exact zr_vret h dX11_freshenGrid_22 ⟨rfl, hk⟩
noncomputable def f_X11_freshenGrid (M : ZMem) : Option ZMem := if (M.1 0 13) = (zI 0) then f_X11_freshenGrid_11 M else zbind (f_X11_settleScript M) (fun M_8 => f_X11_freshenGrid_11 M_8)
set_option maxRecDepth 100000 in
set_option maxHeartbeats 4000000 in
theorem c_X11_freshenGrid (E : ZEv) (M : ZMem) (K : ZMem → Prop) (hk : zOk (f_X11_freshenGrid M) K) : zCon lyC E yX11_freshenGrid cX11_freshenGrid 1 none 6 [zrf E 0] M (zRv K) := by
  refine zcon_of (L0 := [(0, zrf E 0)]) (by decide) rfl (Nat.le_of_ble_eq_true rfl) (fun G h => ?_)
  have h : zRu lyC E G (zRv K) cX11_freshenGrid RX11 1 none 6 := h
  unfold f_X11_freshenGrid at hk
  refine zr_aload_n h dX11_freshenGrid_0 0 rfl rfl ?_
  refine zr_getI h zfo_X11_95 lC_0 rfl dX11_freshenGrid_1 ?_
  refine zr_if_eq (tgt := 11) h dX11_freshenGrid_4 (by decide) (fun c => ?_) (fun c => ?_)
  · have hk := zOk_t c hk
    exact w_X11_freshenGrid_11 h M hk
  · have hk := zOk_f c hk
    refine zr_aload_n h dX11_freshenGrid_7 0 rfl rfl ?_
    refine zr_callVv h lC_0 zcw_X11_336 (by decide) (c_X11_settleScript E M _ (zOk_bind hk)) rfl rfl (Nat.le_of_ble_eq_true rfl) dX11_freshenGrid_8 (fun M_8 hk => ?_)
    exact w_X11_freshenGrid_11 h M_8 hk
theorem dX11_clues_0 : decode cX11_clues 0 = .ok (.aload_n 0, 1) := by decide +kernel
theorem dX11_clues_1 : decode cX11_clues 1 = .ok (.invokevirtual 210, 3) := by decide +kernel
theorem dX11_clues_4 : decode cX11_clues 4 = .ok (.aload_n 0, 1) := by decide +kernel
theorem dX11_clues_5 : decode cX11_clues 5 = .ok (.iload_n 1, 1) := by decide +kernel
theorem dX11_clues_6 : decode cX11_clues 6 = .ok (.invokevirtual 213, 3) := by decide +kernel
theorem dX11_clues_9 : decode cX11_clues 9 = .ok (.invokevirtual 217, 3) := by decide +kernel
theorem dX11_clues_12 : decode cX11_clues 12 = .ok (.ireturn, 1) := by decide +kernel
noncomputable def f_X11_clues (M : ZMem) (x1 : Int32) : Option (ZMem × Int32) := zbind (f_X11_freshenGrid M) (fun M_1 => if x1 = (zI 0) then zbind (f_X5_twos 41 M_1) (fun r_9 => some (M_1, r_9)) else zbind (f_X5_twos 45 M_1) (fun r_9 => some (M_1, r_9)))
set_option maxRecDepth 100000 in
set_option maxHeartbeats 4000000 in
theorem c_X11_clues (E : ZEv) (M : ZMem) (x1 : Int32) (K : ZMem × Int32 → Prop) (hk : zOk (f_X11_clues M x1) K) : zCon lyC E yX11_clues cX11_clues 2 (some .int) 7 [zrf E 0, .int x1] M (zRm K) := by
  refine zcon_of (L0 := [(0, zrf E 0), (1, .int x1)]) (by decide) rfl (Nat.le_of_ble_eq_true rfl) (fun G h => ?_)
  have h : zRu lyC E G (zRm K) cX11_clues RX11 2 (some .int) 7 := h
  unfold f_X11_clues at hk
  refine zr_aload_n h dX11_clues_0 0 rfl rfl ?_
  refine zr_callVv h lC_0 zcw_X11_210 (by decide) (c_X11_freshenGrid E M _ (zOk_bind hk)) rfl rfl (Nat.le_of_ble_eq_true rfl) dX11_clues_1 (fun M_1 hk => ?_)
  refine zr_aload_n h dX11_clues_4 0 rfl rfl ?_
  refine zr_iload_n h dX11_clues_5 1 rfl rfl ?_
  by_cases c : x1 = (zI 0)
  · have hk := zOk_t c hk
    refine zr_callVq h lC_0 zcw_X11_213 (by decide) (c_X11_netOf_0 E M_1 x1 c) rfl rfl (Nat.le_of_ble_eq_true rfl) dX11_clues_6 ?_
    refine zr_callVp h lC_41 zcw_X11_217 (by decide) (c_X5_twos E 41 lC_41 lC_42 lC_43 lC_44 M_1 _ (zOk_bind hk)) rfl rfl (Nat.le_of_ble_eq_true rfl) dX11_clues_9 (fun r_9 hk => ?_)
    have hk := zOk_some hk
    exact zr_iret h dX11_clues_12 ⟨_, rfl, hk⟩
  · have hk := zOk_f c hk
    refine zr_callVq h lC_0 zcw_X11_213 (by decide) (c_X11_netOf_1 E M_1 x1 c) rfl rfl (Nat.le_of_ble_eq_true rfl) dX11_clues_6 ?_
    refine zr_callVp h lC_45 zcw_X11_217 (by decide) (c_X5_twos E 45 lC_45 lC_46 lC_47 lC_48 M_1 _ (zOk_bind hk)) rfl rfl (Nat.le_of_ble_eq_true rfl) dX11_clues_9 (fun r_9 hk => ?_)
    have hk := zOk_some hk
    exact zr_iret h dX11_clues_12 ⟨_, rfl, hk⟩
theorem dX11_place_0 : decode cX11_place 0 = .ok (.aload_n 0, 1) := by decide +kernel
theorem dX11_place_1 : decode cX11_place 1 = .ok (.invokevirtual 210, 3) := by decide +kernel
theorem dX11_place_4 : decode cX11_place 4 = .ok (.aload_n 0, 1) := by decide +kernel
theorem dX11_place_5 : decode cX11_place 5 = .ok (.iload_n 2, 1) := by decide +kernel
theorem dX11_place_6 : decode cX11_place 6 = .ok (.invokevirtual 213, 3) := by decide +kernel
theorem dX11_place_9 : decode cX11_place 9 = .ok (.aload_n 0, 1) := by decide +kernel
theorem dX11_place_10 : decode cX11_place 10 = .ok (.getfield 19, 3) := by decide +kernel
theorem dX11_place_13 : decode cX11_place 13 = .ok (.iload_n 1, 1) := by decide +kernel
theorem dX11_place_14 : decode cX11_place 14 = .ok (.invokevirtual 144, 3) := by decide +kernel
theorem dX11_place_17 : decode cX11_place 17 = .ok (.invokevirtual 220, 3) := by decide +kernel
theorem dX11_place_20 : decode cX11_place 20 = .ok (.ireturn, 1) := by decide +kernel
noncomputable def f_X11_place (M : ZMem) (x1 : Int32) (x2 : Int32) : Option (ZMem × Int32) := zbind (f_X11_freshenGrid M) (fun M_1 => if x2 = (zI 0) then zbind (f_X0_signOf M_1 x1) (fun r_14 => zbind (f_X5_labelOf 41 M_1 r_14) (fun r_17 => some (M_1, r_17))) else zbind (f_X0_signOf M_1 x1) (fun r_14 => zbind (f_X5_labelOf 45 M_1 r_14) (fun r_17 => some (M_1, r_17))))
set_option maxRecDepth 100000 in
set_option maxHeartbeats 4000000 in
theorem c_X11_place (E : ZEv) (M : ZMem) (x1 : Int32) (x2 : Int32) (K : ZMem × Int32 → Prop) (hk : zOk (f_X11_place M x1 x2) K) : zCon lyC E yX11_place cX11_place 3 (some .int) 7 [zrf E 0, .int x1, .int x2] M (zRm K) := by
  refine zcon_of (L0 := [(0, zrf E 0), (1, .int x1), (2, .int x2)]) (by decide) rfl (Nat.le_of_ble_eq_true rfl) (fun G h => ?_)
  have h : zRu lyC E G (zRm K) cX11_place RX11 3 (some .int) 7 := h
  unfold f_X11_place at hk
  refine zr_aload_n h dX11_place_0 0 rfl rfl ?_
  refine zr_callVv h lC_0 zcw_X11_210 (by decide) (c_X11_freshenGrid E M _ (zOk_bind hk)) rfl rfl (Nat.le_of_ble_eq_true rfl) dX11_place_1 (fun M_1 hk => ?_)
  refine zr_aload_n h dX11_place_4 0 rfl rfl ?_
  refine zr_iload_n h dX11_place_5 2 rfl rfl ?_
  by_cases c : x2 = (zI 0)
  · have hk := zOk_t c hk
    refine zr_callVq h lC_0 zcw_X11_213 (by decide) (c_X11_netOf_0 E M_1 x2 c) rfl rfl (Nat.le_of_ble_eq_true rfl) dX11_place_6 ?_
    refine zr_aload_n h dX11_place_9 0 rfl rfl ?_
    refine zr_getR h zfo_X11_19 lC_0 rfl dX11_place_10 ?_
    refine zr_iload_n h dX11_place_13 1 rfl rfl ?_
    refine zr_callVp h lC_3 zcw_X11_144 (by decide) (c_X0_signOf E M_1 x1 _ (zOk_bind hk)) rfl rfl (Nat.le_of_ble_eq_true rfl) dX11_place_14 (fun r_14 hk => ?_)
    refine zr_callVp h lC_41 zcw_X11_220 (by decide) (c_X5_labelOf E 41 lC_41 lC_42 lC_43 lC_44 M_1 r_14 _ (zOk_bind hk)) rfl rfl (Nat.le_of_ble_eq_true rfl) dX11_place_17 (fun r_17 hk => ?_)
    have hk := zOk_some hk
    exact zr_iret h dX11_place_20 ⟨_, rfl, hk⟩
  · have hk := zOk_f c hk
    refine zr_callVq h lC_0 zcw_X11_213 (by decide) (c_X11_netOf_1 E M_1 x2 c) rfl rfl (Nat.le_of_ble_eq_true rfl) dX11_place_6 ?_
    refine zr_aload_n h dX11_place_9 0 rfl rfl ?_
    refine zr_getR h zfo_X11_19 lC_0 rfl dX11_place_10 ?_
    refine zr_iload_n h dX11_place_13 1 rfl rfl ?_
    refine zr_callVp h lC_3 zcw_X11_144 (by decide) (c_X0_signOf E M_1 x1 _ (zOk_bind hk)) rfl rfl (Nat.le_of_ble_eq_true rfl) dX11_place_14 (fun r_14 hk => ?_)
    refine zr_callVp h lC_45 zcw_X11_220 (by decide) (c_X5_labelOf E 45 lC_45 lC_46 lC_47 lC_48 M_1 r_14 _ (zOk_bind hk)) rfl rfl (Nat.le_of_ble_eq_true rfl) dX11_place_17 (fun r_17 hk => ?_)
    have hk := zOk_some hk
    exact zr_iret h dX11_place_20 ⟨_, rfl, hk⟩
theorem dX11_clashing_0 : decode cX11_clashing 0 = .ok (.aload_n 0, 1) := by decide +kernel
theorem dX11_clashing_1 : decode cX11_clashing 1 = .ok (.getfield 19, 3) := by decide +kernel
theorem dX11_clashing_4 : decode cX11_clashing 4 = .ok (.iload_n 1, 1) := by decide +kernel
theorem dX11_clashing_5 : decode cX11_clashing 5 = .ok (.invokevirtual 327, 3) := by decide +kernel
theorem dX11_clashing_8 : decode cX11_clashing 8 = .ok (.ifCond .eq 42, 3) := by decide +kernel
theorem dX11_clashing_11 : decode cX11_clashing 11 = .ok (.aload_n 0, 1) := by decide +kernel
theorem dX11_clashing_12 : decode cX11_clashing 12 = .ok (.getfield 19, 3) := by decide +kernel
theorem dX11_clashing_15 : decode cX11_clashing 15 = .ok (.iload_n 2, 1) := by decide +kernel
theorem dX11_clashing_16 : decode cX11_clashing 16 = .ok (.invokevirtual 327, 3) := by decide +kernel
theorem dX11_clashing_19 : decode cX11_clashing 19 = .ok (.ifCond .eq 31, 3) := by decide +kernel
theorem dX11_clashing_22 : decode cX11_clashing 22 = .ok (.aload_n 0, 1) := by decide +kernel
theorem dX11_clashing_23 : decode cX11_clashing 23 = .ok (.getfield 63, 3) := by decide +kernel
theorem dX11_clashing_26 : decode cX11_clashing 26 = .ok (.iload_n 1, 1) := by decide +kernel
theorem dX11_clashing_27 : decode cX11_clashing 27 = .ok (.iload_n 2, 1) := by decide +kernel
theorem dX11_clashing_28 : decode cX11_clashing 28 = .ok (.invokevirtual 330, 3) := by decide +kernel
theorem dX11_clashing_31 : decode cX11_clashing 31 = .ok (.ifCond .eq 19, 3) := by decide +kernel
theorem dX11_clashing_34 : decode cX11_clashing 34 = .ok (.aload_n 0, 1) := by decide +kernel
theorem dX11_clashing_35 : decode cX11_clashing 35 = .ok (.getfield 67, 3) := by decide +kernel
theorem dX11_clashing_38 : decode cX11_clashing 38 = .ok (.iload_n 1, 1) := by decide +kernel
theorem dX11_clashing_39 : decode cX11_clashing 39 = .ok (.iload_n 2, 1) := by decide +kernel
theorem dX11_clashing_40 : decode cX11_clashing 40 = .ok (.invokevirtual 330, 3) := by decide +kernel
theorem dX11_clashing_43 : decode cX11_clashing 43 = .ok (.ifCond .eq 7, 3) := by decide +kernel
theorem dX11_clashing_46 : decode cX11_clashing 46 = .ok (.iconst 1, 1) := by decide +kernel
theorem dX11_clashing_47 : decode cX11_clashing 47 = .ok (.goto 4, 3) := by decide +kernel
theorem dX11_clashing_50 : decode cX11_clashing 50 = .ok (.iconst 0, 1) := by decide +kernel
theorem dX11_clashing_51 : decode cX11_clashing 51 = .ok (.ireturn, 1) := by decide +kernel
noncomputable def f_X11_clashing (M : ZMem) (x1 : Int32) (x2 : Int32) : Option Int32 := zbind (f_X0_isSign M x1) (fun r_5 => if r_5 = (zI 0) then some (zI 0) else zbind (f_X0_isSign M x2) (fun r_16 => if r_16 = (zI 0) then some (zI 0) else zbind (f_X5_together 41 M x1 x2) (fun r_28 => if r_28 = (zI 0) then some (zI 0) else zbind (f_X5_together 45 M x1 x2) (fun r_40 => if r_40 = (zI 0) then some (zI 0) else some (zI 1)))))
set_option maxRecDepth 100000 in
set_option maxHeartbeats 4000000 in
theorem c_X11_clashing (E : ZEv) (M : ZMem) (x1 : Int32) (x2 : Int32) (K : Int32 → Prop) (hk : zOk (f_X11_clashing M x1 x2) K) : zCon lyC E yX11_clashing cX11_clashing 3 (some .boolean) 2 [zrf E 0, .int x1, .int x2] M (zRp M K) := by
  refine zcon_of (L0 := [(0, zrf E 0), (1, .int x1), (2, .int x2)]) (by decide) rfl (Nat.le_of_ble_eq_true rfl) (fun G h => ?_)
  have h : zRu lyC E G (zRp M K) cX11_clashing RX11 3 (some .boolean) 2 := h
  unfold f_X11_clashing at hk
  refine zr_aload_n h dX11_clashing_0 0 rfl rfl ?_
  refine zr_getR h zfo_X11_19 lC_0 rfl dX11_clashing_1 ?_
  refine zr_iload_n h dX11_clashing_4 1 rfl rfl ?_
  refine zr_callVp h lC_3 zcw_X11_327 (by decide) (c_X0_isSign E M x1 _ (zOk_bind hk)) rfl rfl (Nat.le_of_ble_eq_true rfl) dX11_clashing_5 (fun r_5 hk => ?_)
  refine zr_if_eq (tgt := 50) h dX11_clashing_8 (by decide) (fun c => ?_) (fun c => ?_)
  · have hk := zOk_t c hk
    refine zr_iconst (v := (zI 0)) h dX11_clashing_50 rfl ?_
    have hk := zOk_some hk
    exact zr_zret h dX11_clashing_51 (by decide) ⟨rfl, _, rfl, hk⟩
  · have hk := zOk_f c hk
    refine zr_aload_n h dX11_clashing_11 0 rfl rfl ?_
    refine zr_getR h zfo_X11_19 lC_0 rfl dX11_clashing_12 ?_
    refine zr_iload_n h dX11_clashing_15 2 rfl rfl ?_
    refine zr_callVp h lC_3 zcw_X11_327 (by decide) (c_X0_isSign E M x2 _ (zOk_bind hk)) rfl rfl (Nat.le_of_ble_eq_true rfl) dX11_clashing_16 (fun r_16 hk => ?_)
    refine zr_if_eq (tgt := 50) h dX11_clashing_19 (by decide) (fun c => ?_) (fun c => ?_)
    · have hk := zOk_t c hk
      refine zr_iconst (v := (zI 0)) h dX11_clashing_50 rfl ?_
      have hk := zOk_some hk
      exact zr_zret h dX11_clashing_51 (by decide) ⟨rfl, _, rfl, hk⟩
    · have hk := zOk_f c hk
      refine zr_aload_n h dX11_clashing_22 0 rfl rfl ?_
      refine zr_getR h zfo_X11_63 lC_0 rfl dX11_clashing_23 ?_
      refine zr_iload_n h dX11_clashing_26 1 rfl rfl ?_
      refine zr_iload_n h dX11_clashing_27 2 rfl rfl ?_
      refine zr_callVp h lC_41 zcw_X11_330 (by decide) (c_X5_together E 41 lC_41 lC_42 lC_43 lC_44 M x1 x2 _ (zOk_bind hk)) rfl rfl (Nat.le_of_ble_eq_true rfl) dX11_clashing_28 (fun r_28 hk => ?_)
      refine zr_if_eq (tgt := 50) h dX11_clashing_31 (by decide) (fun c => ?_) (fun c => ?_)
      · have hk := zOk_t c hk
        refine zr_iconst (v := (zI 0)) h dX11_clashing_50 rfl ?_
        have hk := zOk_some hk
        exact zr_zret h dX11_clashing_51 (by decide) ⟨rfl, _, rfl, hk⟩
      · have hk := zOk_f c hk
        refine zr_aload_n h dX11_clashing_34 0 rfl rfl ?_
        refine zr_getR h zfo_X11_67 lC_0 rfl dX11_clashing_35 ?_
        refine zr_iload_n h dX11_clashing_38 1 rfl rfl ?_
        refine zr_iload_n h dX11_clashing_39 2 rfl rfl ?_
        refine zr_callVp h lC_45 zcw_X11_330 (by decide) (c_X5_together E 45 lC_45 lC_46 lC_47 lC_48 M x1 x2 _ (zOk_bind hk)) rfl rfl (Nat.le_of_ble_eq_true rfl) dX11_clashing_40 (fun r_40 hk => ?_)
        refine zr_if_eq (tgt := 50) h dX11_clashing_43 (by decide) (fun c => ?_) (fun c => ?_)
        · have hk := zOk_t c hk
          refine zr_iconst (v := (zI 0)) h dX11_clashing_50 rfl ?_
          have hk := zOk_some hk
          exact zr_zret h dX11_clashing_51 (by decide) ⟨rfl, _, rfl, hk⟩
        · have hk := zOk_f c hk
          refine zr_iconst (v := (zI 1)) h dX11_clashing_46 rfl ?_
          refine zr_goto (tgt := 51) h dX11_clashing_47 (by decide) ?_
          have hk := zOk_some hk
          exact zr_zret h dX11_clashing_51 (by decide) ⟨rfl, _, rfl, hk⟩
theorem dX11_clashFact_0 : decode cX11_clashFact 0 = .ok (.iload_n 3, 1) := by decide +kernel
theorem dX11_clashFact_1 : decode cX11_clashFact 1 = .ok (.ifCond .ne 5, 3) := by decide +kernel
theorem dX11_clashFact_4 : decode cX11_clashFact 4 = .ok (.iload_n 1, 1) := by decide +kernel
theorem dX11_clashFact_5 : decode cX11_clashFact 5 = .ok (.ireturn, 1) := by decide +kernel
theorem dX11_clashFact_6 : decode cX11_clashFact 6 = .ok (.iload_n 3, 1) := by decide +kernel
theorem dX11_clashFact_7 : decode cX11_clashFact 7 = .ok (.iconst 1, 1) := by decide +kernel
theorem dX11_clashFact_8 : decode cX11_clashFact 8 = .ok (.if_icmp .ne 7, 3) := by decide +kernel
theorem dX11_clashFact_11 : decode cX11_clashFact 11 = .ok (.iload_n 2, 1) := by decide +kernel
theorem dX11_clashFact_12 : decode cX11_clashFact 12 = .ok (.goto 22, 3) := by decide +kernel
theorem dX11_clashFact_15 : decode cX11_clashFact 15 = .ok (.aload_n 0, 1) := by decide +kernel
theorem dX11_clashFact_16 : decode cX11_clashFact 16 = .ok (.getfield 63, 3) := by decide +kernel
theorem dX11_clashFact_19 : decode cX11_clashFact 19 = .ok (.iload_n 1, 1) := by decide +kernel
theorem dX11_clashFact_20 : decode cX11_clashFact 20 = .ok (.iload_n 2, 1) := by decide +kernel
theorem dX11_clashFact_21 : decode cX11_clashFact 21 = .ok (.invokevirtual 333, 3) := by decide +kernel
theorem dX11_clashFact_24 : decode cX11_clashFact 24 = .ok (.aload_n 0, 1) := by decide +kernel
theorem dX11_clashFact_25 : decode cX11_clashFact 25 = .ok (.getfield 67, 3) := by decide +kernel
theorem dX11_clashFact_28 : decode cX11_clashFact 28 = .ok (.iload_n 1, 1) := by decide +kernel
theorem dX11_clashFact_29 : decode cX11_clashFact 29 = .ok (.iload_n 2, 1) := by decide +kernel
theorem dX11_clashFact_30 : decode cX11_clashFact 30 = .ok (.invokevirtual 333, 3) := by decide +kernel
theorem dX11_clashFact_33 : decode cX11_clashFact 33 = .ok (.iadd, 1) := by decide +kernel
theorem dX11_clashFact_34 : decode cX11_clashFact 34 = .ok (.ireturn, 1) := by decide +kernel
noncomputable def f_X11_clashFact (M : ZMem) (x1 : Int32) (x2 : Int32) (x3 : Int32) : Option Int32 := if x3 = (zI 0) then some x1 else if x3 = (zI 1) then some x2 else zbind (f_X5_stepsBetween 41 M x1 x2) (fun r_21 => zbind (f_X5_stepsBetween 45 M x1 x2) (fun r_30 => some (r_21 + r_30)))
set_option maxRecDepth 100000 in
set_option maxHeartbeats 4000000 in
theorem c_X11_clashFact (E : ZEv) (M : ZMem) (x1 : Int32) (x2 : Int32) (x3 : Int32) (K : Int32 → Prop) (hk : zOk (f_X11_clashFact M x1 x2 x3) K) : zCon lyC E yX11_clashFact cX11_clashFact 4 (some .int) 1 [zrf E 0, .int x1, .int x2, .int x3] M (zRp M K) := by
  refine zcon_of (L0 := [(0, zrf E 0), (1, .int x1), (2, .int x2), (3, .int x3)]) (by decide) rfl (Nat.le_of_ble_eq_true rfl) (fun G h => ?_)
  have h : zRu lyC E G (zRp M K) cX11_clashFact RX11 4 (some .int) 1 := h
  unfold f_X11_clashFact at hk
  refine zr_iload_n h dX11_clashFact_0 3 rfl rfl ?_
  refine zr_if_ne (tgt := 6) h dX11_clashFact_1 (by decide) (fun c => ?_) (fun c => ?_)
  · have hk := zOk_t c hk
    refine zr_iload_n h dX11_clashFact_4 1 rfl rfl ?_
    have hk := zOk_some hk
    exact zr_iret h dX11_clashFact_5 ⟨rfl, _, rfl, hk⟩
  · have hk := zOk_f c hk
    refine zr_iload_n h dX11_clashFact_6 3 rfl rfl ?_
    refine zr_iconst (v := (zI 1)) h dX11_clashFact_7 rfl ?_
    refine zr_icmp_ne (tgt := 15) h dX11_clashFact_8 (by decide) (fun c => ?_) (fun c => ?_)
    · have hk := zOk_t c hk
      refine zr_iload_n h dX11_clashFact_11 2 rfl rfl ?_
      refine zr_goto (tgt := 34) h dX11_clashFact_12 (by decide) ?_
      have hk := zOk_some hk
      exact zr_iret h dX11_clashFact_34 ⟨rfl, _, rfl, hk⟩
    · have hk := zOk_f c hk
      refine zr_aload_n h dX11_clashFact_15 0 rfl rfl ?_
      refine zr_getR h zfo_X11_63 lC_0 rfl dX11_clashFact_16 ?_
      refine zr_iload_n h dX11_clashFact_19 1 rfl rfl ?_
      refine zr_iload_n h dX11_clashFact_20 2 rfl rfl ?_
      refine zr_callVp h lC_41 zcw_X11_333 (by decide) (c_X5_stepsBetween E 41 lC_41 lC_42 lC_43 lC_44 M x1 x2 _ (zOk_bind hk)) rfl rfl (Nat.le_of_ble_eq_true rfl) dX11_clashFact_21 (fun r_21 hk => ?_)
      refine zr_aload_n h dX11_clashFact_24 0 rfl rfl ?_
      refine zr_getR h zfo_X11_67 lC_0 rfl dX11_clashFact_25 ?_
      refine zr_iload_n h dX11_clashFact_28 1 rfl rfl ?_
      refine zr_iload_n h dX11_clashFact_29 2 rfl rfl ?_
      refine zr_callVp h lC_45 zcw_X11_333 (by decide) (c_X5_stepsBetween E 45 lC_45 lC_46 lC_47 lC_48 M x1 x2 _ (zOk_bind hk)) rfl rfl (Nat.le_of_ble_eq_true rfl) dX11_clashFact_30 (fun r_30 hk => ?_)
      refine zr_iadd h dX11_clashFact_33 ?_
      have hk := zOk_some hk
      exact zr_iret h dX11_clashFact_34 ⟨rfl, _, rfl, hk⟩
theorem dX11_clash_0 : decode cX11_clash 0 = .ok (.iload_n 1, 1) := by decide +kernel
theorem dX11_clash_1 : decode cX11_clash 1 = .ok (.ifCond .lt 8, 3) := by decide +kernel
theorem dX11_clash_4 : decode cX11_clash 4 = .ok (.iload_n 1, 1) := by decide +kernel
theorem dX11_clash_5 : decode cX11_clash 5 = .ok (.iconst 2, 1) := by decide +kernel
theorem dX11_clash_6 : decode cX11_clash 6 = .ok (.if_icmp .le 5, 3) := by decide +kernel
theorem dX11_clash_9 : decode cX11_clash 9 = .ok (.iconst (-1), 1) := by decide +kernel
theorem dX11_clash_10 : decode cX11_clash 10 = .ok (.ireturn, 1) := by decide +kernel
theorem dX11_clash_11 : decode cX11_clash 11 = .ok (.aload_n 0, 1) := by decide +kernel
theorem dX11_clash_12 : decode cX11_clash 12 = .ok (.invokevirtual 210, 3) := by decide +kernel
theorem dX11_clash_15 : decode cX11_clash 15 = .ok (.iconst 0, 1) := by decide +kernel
theorem dX11_clash_16 : decode cX11_clash 16 = .ok (.istore_n 2, 1) := by decide +kernel
theorem dX11_clash_17 : decode cX11_clash 17 = .ok (.iload_n 2, 1) := by decide +kernel
theorem dX11_clash_18 : decode cX11_clash 18 = .ok (.aload_n 0, 1) := by decide +kernel
theorem dX11_clash_19 : decode cX11_clash 19 = .ok (.getfield 19, 3) := by decide +kernel
theorem dX11_clash_22 : decode cX11_clash 22 = .ok (.invokevirtual 123, 3) := by decide +kernel
theorem dX11_clash_25 : decode cX11_clash 25 = .ok (.if_icmp .ge 47, 3) := by decide +kernel
theorem dX11_clash_28 : decode cX11_clash 28 = .ok (.iload_n 2, 1) := by decide +kernel
theorem dX11_clash_29 : decode cX11_clash 29 = .ok (.iconst 1, 1) := by decide +kernel
theorem dX11_clash_30 : decode cX11_clash 30 = .ok (.iadd, 1) := by decide +kernel
theorem dX11_clash_31 : decode cX11_clash 31 = .ok (.istore_n 3, 1) := by decide +kernel
theorem dX11_clash_32 : decode cX11_clash 32 = .ok (.iload_n 3, 1) := by decide +kernel
theorem dX11_clash_33 : decode cX11_clash 33 = .ok (.aload_n 0, 1) := by decide +kernel
theorem dX11_clash_34 : decode cX11_clash 34 = .ok (.getfield 19, 3) := by decide +kernel
theorem dX11_clash_37 : decode cX11_clash 37 = .ok (.invokevirtual 123, 3) := by decide +kernel
theorem dX11_clash_40 : decode cX11_clash 40 = .ok (.if_icmp .ge 26, 3) := by decide +kernel
theorem dX11_clash_43 : decode cX11_clash 43 = .ok (.aload_n 0, 1) := by decide +kernel
theorem dX11_clash_44 : decode cX11_clash 44 = .ok (.iload_n 2, 1) := by decide +kernel
theorem dX11_clash_45 : decode cX11_clash 45 = .ok (.iload_n 3, 1) := by decide +kernel
theorem dX11_clash_46 : decode cX11_clash 46 = .ok (.invokevirtual 223, 3) := by decide +kernel
theorem dX11_clash_49 : decode cX11_clash 49 = .ok (.ifCond .eq 11, 3) := by decide +kernel
theorem dX11_clash_52 : decode cX11_clash 52 = .ok (.aload_n 0, 1) := by decide +kernel
theorem dX11_clash_53 : decode cX11_clash 53 = .ok (.iload_n 2, 1) := by decide +kernel
theorem dX11_clash_54 : decode cX11_clash 54 = .ok (.iload_n 3, 1) := by decide +kernel
theorem dX11_clash_55 : decode cX11_clash 55 = .ok (.iload_n 1, 1) := by decide +kernel
theorem dX11_clash_56 : decode cX11_clash 56 = .ok (.invokevirtual 227, 3) := by decide +kernel
theorem dX11_clash_59 : decode cX11_clash 59 = .ok (.ireturn, 1) := by decide +kernel
theorem dX11_clash_60 : decode cX11_clash 60 = .ok (.iinc 3 1, 3) := by decide +kernel
theorem dX11_clash_63 : decode cX11_clash 63 = .ok (.goto (-31), 3) := by decide +kernel
theorem dX11_clash_66 : decode cX11_clash 66 = .ok (.iinc 2 1, 3) := by decide +kernel
theorem dX11_clash_69 : decode cX11_clash 69 = .ok (.goto (-52), 3) := by decide +kernel
theorem dX11_clash_72 : decode cX11_clash 72 = .ok (.bipush (-2), 2) := by decide +kernel
theorem dX11_clash_74 : decode cX11_clash 74 = .ok (.ireturn, 1) := by decide +kernel
noncomputable def f_X11_clash_L32 (M : ZMem) (x1 : Int32) (x2 : Int32) (s : (Int32)) : Option ((Int32) ⊕ ((Unit) ⊕ (ZMem × Int32))) := zbind (f_X0_told M) (fun r_37 => if r_37 ≤ s then some (.inr (.inl ())) else zbind (f_X11_clashing M x2 s) (fun r_46 => if r_46 = (zI 0) then zbnd (s + (zI 1)) (fun x3_60 => some (.inl x3_60)) else zbind (f_X11_clashFact M x2 s x1) (fun r_56 => some (.inr (.inr (M, r_56))))))
set_option maxRecDepth 100000 in
set_option maxHeartbeats 4000000 in
theorem w_X11_clash_L32 {E : ZEv} {G : ZG} {K : (ZMem × Int32) → Prop} (h : zRu lyC E G (zRm K) cX11_clash RX11 4 (some .int) 7) (M : ZMem) (x1 : Int32) (x2 : Int32) (s : (Int32)) (hk : zOk (zloop (f_X11_clash_L32 M x1 x2) s) (fun e => zsel e (fun e0 => G M 66 [(0, zrf E 0), (1, .int x1), (2, .int x2)] []) (fun f0 => K f0))) : G M 32 [(0, zrf E 0), (1, .int x1), (2, .int x2), (3, .int s)] [] := by
  refine zloop_walk (P := fun s => G M 32 [(0, zrf E 0), (1, .int x1), (2, .int x2), (3, .int s)] []) hk (fun s hk => ?_)
  unfold f_X11_clash_L32 at hk
  refine zr_iload_n h dX11_clash_32 3 rfl rfl ?_
  refine zr_aload_n h dX11_clash_33 0 rfl rfl ?_
  refine zr_getR h zfo_X11_19 lC_0 rfl dX11_clash_34 ?_
  refine zr_callVp h lC_3 zcw_X11_123 (by decide) (c_X0_told E M _ (zOk_bind hk)) rfl rfl (Nat.le_of_ble_eq_true rfl) dX11_clash_37 (fun r_37 hk => ?_)
  refine zr_icmp_ge (tgt := 66) h dX11_clash_40 (by decide) (fun c => ?_) (fun c => ?_)
  · have hk := zOk_t c hk
    have hk := zOk_some hk
    exact zr_weak h [0, 1, 2] rfl hk
  · have hk := zOk_f c hk
    refine zr_aload_n h dX11_clash_43 0 rfl rfl ?_
    refine zr_iload_n h dX11_clash_44 2 rfl rfl ?_
    refine zr_iload_n h dX11_clash_45 3 rfl rfl ?_
    refine zr_callVp h lC_0 zcw_X11_223 (by decide) (c_X11_clashing E M x2 s _ (zOk_bind hk)) rfl rfl (Nat.le_of_ble_eq_true rfl) dX11_clash_46 (fun r_46 hk => ?_)
    refine zr_if_eq (tgt := 60) h dX11_clash_49 (by decide) (fun c => ?_) (fun c => ?_)
    · have hk := zOk_t c hk
      obtain ⟨x3_60, ex⟩ : ∃ y : Int32, y = s + (zI 1) := ⟨_, rfl⟩
      have hk := zOk_bnd ex hk
      refine zr_iinc (v := x3_60) (L' := [(0, zrf E 0), (1, .int x1), (2, .int x2), (3, .int x3_60)]) h 3 [1, 2, 3, 0] dX11_clash_60 rfl (by rw [ex]; rfl) (by decide) rfl ?_
      refine zr_goto (tgt := 32) h dX11_clash_63 (by decide) ?_
      have hk := zOk_some hk
      exact zr_weak h [0, 1, 2, 3] rfl hk
    · have hk := zOk_f c hk
      refine zr_aload_n h dX11_clash_52 0 rfl rfl ?_
      refine zr_iload_n h dX11_clash_53 2 rfl rfl ?_
      refine zr_iload_n h dX11_clash_54 3 rfl rfl ?_
      refine zr_iload_n h dX11_clash_55 1 rfl rfl ?_
      refine zr_callVp h lC_0 zcw_X11_227 (by decide) (c_X11_clashFact E M x2 s x1 _ (zOk_bind hk)) rfl rfl (Nat.le_of_ble_eq_true rfl) dX11_clash_56 (fun r_56 hk => ?_)
      have hk := zOk_some hk
      exact zr_iret h dX11_clash_59 ⟨_, rfl, hk⟩
noncomputable def f_X11_clash_L17 (M : ZMem) (x1 : Int32) (s : (Int32)) : Option ((Int32) ⊕ ((Unit) ⊕ (ZMem × Int32))) := zbind (f_X0_told M) (fun r_22 => if r_22 ≤ s then some (.inr (.inl ())) else zbnd (s + (zI 1)) (fun x3_31 => zbind (zloop (f_X11_clash_L32 M x1 s) x3_31) (fun e32 => zsel e32 (fun e32a => zbnd (s + (zI 1)) (fun x2_66 => some (.inl x2_66))) (fun e32b => some (.inr (.inr e32b))))))
set_option maxRecDepth 100000 in
set_option maxHeartbeats 4000000 in
theorem w_X11_clash_L17 {E : ZEv} {G : ZG} {K : (ZMem × Int32) → Prop} (h : zRu lyC E G (zRm K) cX11_clash RX11 4 (some .int) 7) (M : ZMem) (x1 : Int32) (s : (Int32)) (hk : zOk (zloop (f_X11_clash_L17 M x1) s) (fun e => zsel e (fun e0 => G M 72 [] []) (fun f0 => K f0))) : G M 17 [(0, zrf E 0), (1, .int x1), (2, .int s)] [] := by
  refine zloop_walk (P := fun s => G M 17 [(0, zrf E 0), (1, .int x1), (2, .int s)] []) hk (fun s hk => ?_)
  unfold f_X11_clash_L17 at hk
  refine zr_iload_n h dX11_clash_17 2 rfl rfl ?_
  refine zr_aload_n h dX11_clash_18 0 rfl rfl ?_
  refine zr_getR h zfo_X11_19 lC_0 rfl dX11_clash_19 ?_
  refine zr_callVp h lC_3 zcw_X11_123 (by decide) (c_X0_told E M _ (zOk_bind hk)) rfl rfl (Nat.le_of_ble_eq_true rfl) dX11_clash_22 (fun r_22 hk => ?_)
  refine zr_icmp_ge (tgt := 72) h dX11_clash_25 (by decide) (fun c => ?_) (fun c => ?_)
  · have hk := zOk_t c hk
    have hk := zOk_some hk
    exact zr_weak h [] rfl hk
  · have hk := zOk_f c hk
    refine zr_iload_n h dX11_clash_28 2 rfl rfl ?_
    refine zr_iconst (v := (zI 1)) h dX11_clash_29 rfl ?_
    refine zr_iadd h dX11_clash_30 ?_
    refine zr_topi (fun x3_31 ex => ?_)
    have hk := zOk_bnd ex hk
    refine zr_istore_n (L' := [(0, zrf E 0), (1, .int x1), (2, .int s), (3, .int x3_31)]) h [1, 2, 3, 0] dX11_clash_31 rfl (by decide) rfl ?_
    refine w_X11_clash_L32 h M x1 s x3_31 (zOk_mono (zOk_bind hk) (fun e32 hk => ?_))
    cases e32 with
    | inl e32a =>
      have hk := zOk_selL hk
      obtain ⟨x2_66, ex⟩ : ∃ y : Int32, y = s + (zI 1) := ⟨_, rfl⟩
      have hk := zOk_bnd ex hk
      refine zr_iinc (v := x2_66) (L' := [(0, zrf E 0), (1, .int x1), (2, .int x2_66)]) h 2 [1, 2, 0] dX11_clash_66 rfl (by rw [ex]; rfl) (by decide) rfl ?_
      refine zr_goto (tgt := 17) h dX11_clash_69 (by decide) ?_
      have hk := zOk_some hk
      exact zr_weak h [0, 1, 2] rfl hk
    | inr e32b =>
      have hk := zOk_selR hk
      have hk := zOk_some hk
      exact hk
noncomputable def f_X11_clash (M : ZMem) (x1 : Int32) : Option (ZMem × Int32) := if x1 < (zI 0) then some (M, (zI (-1))) else if x1 ≤ (zI 2) then zbind (f_X11_freshenGrid M) (fun M_12 => zbind (zloop (f_X11_clash_L17 M_12 x1) (zI 0)) (fun e17 => zsel e17 (fun e17a => some (M_12, (zI (-2)))) (fun e17b => some e17b))) else some (M, (zI (-1)))
set_option maxRecDepth 100000 in
set_option maxHeartbeats 4000000 in
theorem c_X11_clash (E : ZEv) (M : ZMem) (x1 : Int32) (K : ZMem × Int32 → Prop) (hk : zOk (f_X11_clash M x1) K) : zCon lyC E yX11_clash cX11_clash 4 (some .int) 7 [zrf E 0, .int x1] M (zRm K) := by
  refine zcon_of (L0 := [(0, zrf E 0), (1, .int x1)]) (by decide) rfl (Nat.le_of_ble_eq_true rfl) (fun G h => ?_)
  have h : zRu lyC E G (zRm K) cX11_clash RX11 4 (some .int) 7 := h
  unfold f_X11_clash at hk
  refine zr_iload_n h dX11_clash_0 1 rfl rfl ?_
  refine zr_if_lt (tgt := 9) h dX11_clash_1 (by decide) (fun c => ?_) (fun c => ?_)
  · have hk := zOk_t c hk
    refine zr_iconst (v := (zI (-1))) h dX11_clash_9 rfl ?_
    have hk := zOk_some hk
    exact zr_iret h dX11_clash_10 ⟨_, rfl, hk⟩
  · have hk := zOk_f c hk
    refine zr_iload_n h dX11_clash_4 1 rfl rfl ?_
    refine zr_iconst (v := (zI 2)) h dX11_clash_5 rfl ?_
    refine zr_icmp_le (tgt := 11) h dX11_clash_6 (by decide) (fun c => ?_) (fun c => ?_)
    · have hk := zOk_t c hk
      refine zr_aload_n h dX11_clash_11 0 rfl rfl ?_
      refine zr_callVv h lC_0 zcw_X11_210 (by decide) (c_X11_freshenGrid E M _ (zOk_bind hk)) rfl rfl (Nat.le_of_ble_eq_true rfl) dX11_clash_12 (fun M_12 hk => ?_)
      refine zr_iconst (v := (zI 0)) h dX11_clash_15 rfl ?_
      refine zr_istore_n (L' := [(0, zrf E 0), (1, .int x1), (2, .int (zI 0))]) h [1, 2, 0] dX11_clash_16 rfl (by decide) rfl ?_
      refine w_X11_clash_L17 h M_12 x1 (zI 0) (zOk_mono (zOk_bind hk) (fun e17 hk => ?_))
      cases e17 with
      | inl e17a =>
        have hk := zOk_selL hk
        refine zr_bipush (v := (zI (-2))) h dX11_clash_72 (by decide) ?_
        have hk := zOk_some hk
        exact zr_iret h dX11_clash_74 ⟨_, rfl, hk⟩
      | inr e17b =>
        have hk := zOk_selR hk
        have hk := zOk_some hk
        exact hk
    · have hk := zOk_f c hk
      refine zr_iconst (v := (zI (-1))) h dX11_clash_9 rfl ?_
      have hk := zOk_some hk
      exact zr_iret h dX11_clash_10 ⟨_, rfl, hk⟩
theorem dX11_clashes_0 : decode cX11_clashes 0 = .ok (.aload_n 0, 1) := by decide +kernel
theorem dX11_clashes_1 : decode cX11_clashes 1 = .ok (.invokevirtual 210, 3) := by decide +kernel
theorem dX11_clashes_4 : decode cX11_clashes 4 = .ok (.iconst 0, 1) := by decide +kernel
theorem dX11_clashes_5 : decode cX11_clashes 5 = .ok (.istore_n 1, 1) := by decide +kernel
theorem dX11_clashes_6 : decode cX11_clashes 6 = .ok (.iconst 0, 1) := by decide +kernel
theorem dX11_clashes_7 : decode cX11_clashes 7 = .ok (.istore_n 2, 1) := by decide +kernel
theorem dX11_clashes_8 : decode cX11_clashes 8 = .ok (.iload_n 2, 1) := by decide +kernel
theorem dX11_clashes_9 : decode cX11_clashes 9 = .ok (.aload_n 0, 1) := by decide +kernel
theorem dX11_clashes_10 : decode cX11_clashes 10 = .ok (.getfield 19, 3) := by decide +kernel
theorem dX11_clashes_13 : decode cX11_clashes 13 = .ok (.invokevirtual 123, 3) := by decide +kernel
theorem dX11_clashes_16 : decode cX11_clashes 16 = .ok (.if_icmp .ge 47, 3) := by decide +kernel
theorem dX11_clashes_19 : decode cX11_clashes 19 = .ok (.iload_n 2, 1) := by decide +kernel
theorem dX11_clashes_20 : decode cX11_clashes 20 = .ok (.iconst 1, 1) := by decide +kernel
theorem dX11_clashes_21 : decode cX11_clashes 21 = .ok (.iadd, 1) := by decide +kernel
theorem dX11_clashes_22 : decode cX11_clashes 22 = .ok (.istore_n 3, 1) := by decide +kernel
theorem dX11_clashes_23 : decode cX11_clashes 23 = .ok (.iload_n 3, 1) := by decide +kernel
theorem dX11_clashes_24 : decode cX11_clashes 24 = .ok (.aload_n 0, 1) := by decide +kernel
theorem dX11_clashes_25 : decode cX11_clashes 25 = .ok (.getfield 19, 3) := by decide +kernel
theorem dX11_clashes_28 : decode cX11_clashes 28 = .ok (.invokevirtual 123, 3) := by decide +kernel
theorem dX11_clashes_31 : decode cX11_clashes 31 = .ok (.if_icmp .ge 26, 3) := by decide +kernel
theorem dX11_clashes_34 : decode cX11_clashes 34 = .ok (.iload_n 1, 1) := by decide +kernel
theorem dX11_clashes_35 : decode cX11_clashes 35 = .ok (.aload_n 0, 1) := by decide +kernel
theorem dX11_clashes_36 : decode cX11_clashes 36 = .ok (.iload_n 2, 1) := by decide +kernel
theorem dX11_clashes_37 : decode cX11_clashes 37 = .ok (.iload_n 3, 1) := by decide +kernel
theorem dX11_clashes_38 : decode cX11_clashes 38 = .ok (.invokevirtual 223, 3) := by decide +kernel
theorem dX11_clashes_41 : decode cX11_clashes 41 = .ok (.ifCond .eq 7, 3) := by decide +kernel
theorem dX11_clashes_44 : decode cX11_clashes 44 = .ok (.iconst 1, 1) := by decide +kernel
theorem dX11_clashes_45 : decode cX11_clashes 45 = .ok (.goto 4, 3) := by decide +kernel
theorem dX11_clashes_48 : decode cX11_clashes 48 = .ok (.iconst 0, 1) := by decide +kernel
theorem dX11_clashes_49 : decode cX11_clashes 49 = .ok (.iadd, 1) := by decide +kernel
theorem dX11_clashes_50 : decode cX11_clashes 50 = .ok (.istore_n 1, 1) := by decide +kernel
theorem dX11_clashes_51 : decode cX11_clashes 51 = .ok (.iinc 3 1, 3) := by decide +kernel
theorem dX11_clashes_54 : decode cX11_clashes 54 = .ok (.goto (-31), 3) := by decide +kernel
theorem dX11_clashes_57 : decode cX11_clashes 57 = .ok (.iinc 2 1, 3) := by decide +kernel
theorem dX11_clashes_60 : decode cX11_clashes 60 = .ok (.goto (-52), 3) := by decide +kernel
theorem dX11_clashes_63 : decode cX11_clashes 63 = .ok (.iload_n 1, 1) := by decide +kernel
theorem dX11_clashes_64 : decode cX11_clashes 64 = .ok (.ireturn, 1) := by decide +kernel
noncomputable def f_X11_clashes_L23 (M : ZMem) (x2 : Int32) (s : (Int32 × Int32)) : Option ((Int32 × Int32) ⊕ (Int32)) := zbind (f_X0_told M) (fun r_28 => if r_28 ≤ s.2 then some (.inr s.1) else zbind (f_X11_clashing M x2 s.2) (fun r_38 => if r_38 = (zI 0) then zbnd (s.1 + (zI 0)) (fun x1_50 => zbnd (s.2 + (zI 1)) (fun x3_51 => some (.inl (x1_50, x3_51)))) else zbnd (s.1 + (zI 1)) (fun x1_50 => zbnd (s.2 + (zI 1)) (fun x3_51 => some (.inl (x1_50, x3_51))))))
set_option maxRecDepth 100000 in
set_option maxHeartbeats 4000000 in
theorem w_X11_clashes_L23 {E : ZEv} {G : ZG} {K : (ZMem × Int32) → Prop} (h : zRu lyC E G (zRm K) cX11_clashes RX11 4 (some .int) 7) (M : ZMem) (x2 : Int32) (s : (Int32 × Int32)) (hk : zOk (zloop (f_X11_clashes_L23 M x2) s) (fun e => G M 57 [(0, zrf E 0), (1, .int e), (2, .int x2)] [])) : G M 23 [(0, zrf E 0), (1, .int s.1), (2, .int x2), (3, .int s.2)] [] := by
  refine zloop_walk (P := fun s => G M 23 [(0, zrf E 0), (1, .int s.1), (2, .int x2), (3, .int s.2)] []) hk (fun s hk => ?_)
  unfold f_X11_clashes_L23 at hk
  refine zr_iload_n h dX11_clashes_23 3 rfl rfl ?_
  refine zr_aload_n h dX11_clashes_24 0 rfl rfl ?_
  refine zr_getR h zfo_X11_19 lC_0 rfl dX11_clashes_25 ?_
  refine zr_callVp h lC_3 zcw_X11_123 (by decide) (c_X0_told E M _ (zOk_bind hk)) rfl rfl (Nat.le_of_ble_eq_true rfl) dX11_clashes_28 (fun r_28 hk => ?_)
  refine zr_icmp_ge (tgt := 57) h dX11_clashes_31 (by decide) (fun c => ?_) (fun c => ?_)
  · have hk := zOk_t c hk
    have hk := zOk_some hk
    exact zr_weak h [0, 1, 2] rfl hk
  · have hk := zOk_f c hk
    refine zr_iload_n h dX11_clashes_34 1 rfl rfl ?_
    refine zr_aload_n h dX11_clashes_35 0 rfl rfl ?_
    refine zr_iload_n h dX11_clashes_36 2 rfl rfl ?_
    refine zr_iload_n h dX11_clashes_37 3 rfl rfl ?_
    refine zr_callVp h lC_0 zcw_X11_223 (by decide) (c_X11_clashing E M x2 s.2 _ (zOk_bind hk)) rfl rfl (Nat.le_of_ble_eq_true rfl) dX11_clashes_38 (fun r_38 hk => ?_)
    refine zr_if_eq (tgt := 48) h dX11_clashes_41 (by decide) (fun c => ?_) (fun c => ?_)
    · have hk := zOk_t c hk
      refine zr_iconst (v := (zI 0)) h dX11_clashes_48 rfl ?_
      refine zr_iadd h dX11_clashes_49 ?_
      refine zr_topi (fun x1_50 ex => ?_)
      have hk := zOk_bnd ex hk
      refine zr_istore_n (L' := [(0, zrf E 0), (1, .int x1_50), (2, .int x2), (3, .int s.2)]) h [1, 0, 2, 3] dX11_clashes_50 rfl (by decide) rfl ?_
      obtain ⟨x3_51, ex⟩ : ∃ y : Int32, y = s.2 + (zI 1) := ⟨_, rfl⟩
      have hk := zOk_bnd ex hk
      refine zr_iinc (v := x3_51) (L' := [(0, zrf E 0), (1, .int x1_50), (2, .int x2), (3, .int x3_51)]) h 3 [1, 2, 3, 0] dX11_clashes_51 rfl (by rw [ex]; rfl) (by decide) rfl ?_
      refine zr_goto (tgt := 23) h dX11_clashes_54 (by decide) ?_
      have hk := zOk_some hk
      exact zr_weak h [0, 1, 2, 3] rfl hk
    · have hk := zOk_f c hk
      refine zr_iconst (v := (zI 1)) h dX11_clashes_44 rfl ?_
      refine zr_goto (tgt := 49) h dX11_clashes_45 (by decide) ?_
      refine zr_iadd h dX11_clashes_49 ?_
      refine zr_topi (fun x1_50 ex => ?_)
      have hk := zOk_bnd ex hk
      refine zr_istore_n (L' := [(0, zrf E 0), (1, .int x1_50), (2, .int x2), (3, .int s.2)]) h [1, 0, 2, 3] dX11_clashes_50 rfl (by decide) rfl ?_
      obtain ⟨x3_51, ex⟩ : ∃ y : Int32, y = s.2 + (zI 1) := ⟨_, rfl⟩
      have hk := zOk_bnd ex hk
      refine zr_iinc (v := x3_51) (L' := [(0, zrf E 0), (1, .int x1_50), (2, .int x2), (3, .int x3_51)]) h 3 [1, 2, 3, 0] dX11_clashes_51 rfl (by rw [ex]; rfl) (by decide) rfl ?_
      refine zr_goto (tgt := 23) h dX11_clashes_54 (by decide) ?_
      have hk := zOk_some hk
      exact zr_weak h [0, 1, 2, 3] rfl hk
noncomputable def f_X11_clashes_L8 (M : ZMem) (s : (Int32 × Int32)) : Option ((Int32 × Int32) ⊕ (Int32)) := zbind (f_X0_told M) (fun r_13 => if r_13 ≤ s.2 then some (.inr s.1) else zbnd (s.2 + (zI 1)) (fun x3_22 => zbind (zloop (f_X11_clashes_L23 M s.2) (s.1, x3_22)) (fun e23 => zbnd (s.2 + (zI 1)) (fun x2_57 => some (.inl (e23, x2_57))))))
set_option maxRecDepth 100000 in
set_option maxHeartbeats 4000000 in
theorem w_X11_clashes_L8 {E : ZEv} {G : ZG} {K : (ZMem × Int32) → Prop} (h : zRu lyC E G (zRm K) cX11_clashes RX11 4 (some .int) 7) (M : ZMem) (s : (Int32 × Int32)) (hk : zOk (zloop (f_X11_clashes_L8 M) s) (fun e => G M 63 [(1, .int e)] [])) : G M 8 [(0, zrf E 0), (1, .int s.1), (2, .int s.2)] [] := by
  refine zloop_walk (P := fun s => G M 8 [(0, zrf E 0), (1, .int s.1), (2, .int s.2)] []) hk (fun s hk => ?_)
  unfold f_X11_clashes_L8 at hk
  refine zr_iload_n h dX11_clashes_8 2 rfl rfl ?_
  refine zr_aload_n h dX11_clashes_9 0 rfl rfl ?_
  refine zr_getR h zfo_X11_19 lC_0 rfl dX11_clashes_10 ?_
  refine zr_callVp h lC_3 zcw_X11_123 (by decide) (c_X0_told E M _ (zOk_bind hk)) rfl rfl (Nat.le_of_ble_eq_true rfl) dX11_clashes_13 (fun r_13 hk => ?_)
  refine zr_icmp_ge (tgt := 63) h dX11_clashes_16 (by decide) (fun c => ?_) (fun c => ?_)
  · have hk := zOk_t c hk
    have hk := zOk_some hk
    exact zr_weak h [1] rfl hk
  · have hk := zOk_f c hk
    refine zr_iload_n h dX11_clashes_19 2 rfl rfl ?_
    refine zr_iconst (v := (zI 1)) h dX11_clashes_20 rfl ?_
    refine zr_iadd h dX11_clashes_21 ?_
    refine zr_topi (fun x3_22 ex => ?_)
    have hk := zOk_bnd ex hk
    refine zr_istore_n (L' := [(0, zrf E 0), (1, .int s.1), (2, .int s.2), (3, .int x3_22)]) h [1, 2, 3, 0] dX11_clashes_22 rfl (by decide) rfl ?_
    refine w_X11_clashes_L23 h M s.2 (s.1, x3_22) (zOk_mono (zOk_bind hk) (fun e23 hk => ?_))
    obtain ⟨x2_57, ex⟩ : ∃ y : Int32, y = s.2 + (zI 1) := ⟨_, rfl⟩
    have hk := zOk_bnd ex hk
    refine zr_iinc (v := x2_57) (L' := [(0, zrf E 0), (1, .int e23), (2, .int x2_57)]) h 2 [1, 2, 0] dX11_clashes_57 rfl (by rw [ex]; rfl) (by decide) rfl ?_
    refine zr_goto (tgt := 8) h dX11_clashes_60 (by decide) ?_
    have hk := zOk_some hk
    exact zr_weak h [0, 1, 2] rfl hk
noncomputable def f_X11_clashes (M : ZMem) : Option (ZMem × Int32) := zbind (f_X11_freshenGrid M) (fun M_1 => zbind (zloop (f_X11_clashes_L8 M_1) ((zI 0), (zI 0))) (fun e8 => some (M_1, e8)))
set_option maxRecDepth 100000 in
set_option maxHeartbeats 4000000 in
theorem c_X11_clashes (E : ZEv) (M : ZMem) (K : ZMem × Int32 → Prop) (hk : zOk (f_X11_clashes M) K) : zCon lyC E yX11_clashes cX11_clashes 4 (some .int) 7 [zrf E 0] M (zRm K) := by
  refine zcon_of (L0 := [(0, zrf E 0)]) (by decide) rfl (Nat.le_of_ble_eq_true rfl) (fun G h => ?_)
  have h : zRu lyC E G (zRm K) cX11_clashes RX11 4 (some .int) 7 := h
  unfold f_X11_clashes at hk
  refine zr_aload_n h dX11_clashes_0 0 rfl rfl ?_
  refine zr_callVv h lC_0 zcw_X11_210 (by decide) (c_X11_freshenGrid E M _ (zOk_bind hk)) rfl rfl (Nat.le_of_ble_eq_true rfl) dX11_clashes_1 (fun M_1 hk => ?_)
  refine zr_iconst (v := (zI 0)) h dX11_clashes_4 rfl ?_
  refine zr_istore_n (L' := [(0, zrf E 0), (1, .int (zI 0))]) h [1, 0] dX11_clashes_5 rfl (by decide) rfl ?_
  refine zr_iconst (v := (zI 0)) h dX11_clashes_6 rfl ?_
  refine zr_istore_n (L' := [(0, zrf E 0), (1, .int (zI 0)), (2, .int (zI 0))]) h [1, 2, 0] dX11_clashes_7 rfl (by decide) rfl ?_
  refine w_X11_clashes_L8 h M_1 ((zI 0), (zI 0)) (zOk_mono (zOk_bind hk) (fun e8 hk => ?_))
  refine zr_iload_n h dX11_clashes_63 0 rfl rfl ?_
  have hk := zOk_some hk
  exact zr_iret h dX11_clashes_64 ⟨_, rfl, hk⟩
theorem dX11_guess_0 : decode cX11_guess 0 = .ok (.iload_n 2, 1) := by decide +kernel
theorem dX11_guess_1 : decode cX11_guess 1 = .ok (.iload_n 3, 1) := by decide +kernel
theorem dX11_guess_2 : decode cX11_guess 2 = .ok (.invokestatic 231, 3) := by decide +kernel
theorem dX11_guess_5 : decode cX11_guess 5 = .ok (.istore 4, 2) := by decide +kernel
theorem dX11_guess_7 : decode cX11_guess 7 = .ok (.aload_n 0, 1) := by decide +kernel
theorem dX11_guess_8 : decode cX11_guess 8 = .ok (.getfield 19, 3) := by decide +kernel
theorem dX11_guess_11 : decode cX11_guess 11 = .ok (.iload_n 1, 1) := by decide +kernel
theorem dX11_guess_12 : decode cX11_guess 12 = .ok (.invokevirtual 234, 3) := by decide +kernel
theorem dX11_guess_15 : decode cX11_guess 15 = .ok (.ifCond .eq 23, 3) := by decide +kernel
theorem dX11_guess_18 : decode cX11_guess 18 = .ok (.iload 4, 2) := by decide +kernel
theorem dX11_guess_20 : decode cX11_guess 20 = .ok (.bipush (-2), 2) := by decide +kernel
theorem dX11_guess_22 : decode cX11_guess 22 = .ok (.if_icmp .eq 16, 3) := by decide +kernel
theorem dX11_guess_25 : decode cX11_guess 25 = .ok (.aload_n 0, 1) := by decide +kernel
theorem dX11_guess_26 : decode cX11_guess 26 = .ok (.getfield 40, 3) := by decide +kernel
theorem dX11_guess_29 : decode cX11_guess 29 = .ok (.iload_n 1, 1) := by decide +kernel
theorem dX11_guess_30 : decode cX11_guess 30 = .ok (.iload 4, 2) := by decide +kernel
theorem dX11_guess_32 : decode cX11_guess 32 = .ok (.invokevirtual 237, 3) := by decide +kernel
theorem dX11_guess_35 : decode cX11_guess 35 = .ok (.ifCond .ne 5, 3) := by decide +kernel
theorem dX11_guess_38 : decode cX11_guess 38 = .ok (.iconst (-1), 1) := by decide +kernel
theorem dX11_guess_39 : decode cX11_guess 39 = .ok (.ireturn, 1) := by decide +kernel
theorem dX11_guess_40 : decode cX11_guess 40 = .ok (.aload_n 0, 1) := by decide +kernel
theorem dX11_guess_41 : decode cX11_guess 41 = .ok (.iconst 1, 1) := by decide +kernel
theorem dX11_guess_42 : decode cX11_guess 42 = .ok (.putfield 134, 3) := by decide +kernel
theorem dX11_guess_45 : decode cX11_guess 45 = .ok (.aload_n 0, 1) := by decide +kernel
theorem dX11_guess_46 : decode cX11_guess 46 = .ok (.invokevirtual 210, 3) := by decide +kernel
theorem dX11_guess_49 : decode cX11_guess 49 = .ok (.aload_n 0, 1) := by decide +kernel
theorem dX11_guess_50 : decode cX11_guess 50 = .ok (.getfield 73, 3) := by decide +kernel
theorem dX11_guess_53 : decode cX11_guess 53 = .ok (.invokevirtual 240, 3) := by decide +kernel
theorem dX11_guess_56 : decode cX11_guess 56 = .ok (.ireturn, 1) := by decide +kernel
noncomputable def f_X11_guess (M : ZMem) (x1 : Int32) (x2 : Int32) (x3 : Int32) : Option (ZMem × Int32) := zbind (f_X11_syllableOf M x2 x3) (fun r_2 => zbind (f_X0_has M x1) (fun r_12 => if r_12 = (zI 0) then some (M, (zI (-1))) else if r_2 = (zI (-2)) then some (M, (zI (-1))) else zbind (f_X1_tellGuess M x1 r_2) (fun r_32 => if r_32.2 = (zI 0) then some (r_32.1, (zI (-1))) else zbnd (zstI r_32.1 0 14 (zI 1)) (fun M_42 => zbind (f_X11_freshenGrid M_42) (fun M_46 => zbind (f_X9_disputedSigns M_46) (fun r_53 => some (M_46, r_53)))))))
set_option maxRecDepth 100000 in
set_option maxHeartbeats 4000000 in
theorem c_X11_guess (E : ZEv) (M : ZMem) (x1 : Int32) (x2 : Int32) (x3 : Int32) (K : ZMem × Int32 → Prop) (hk : zOk (f_X11_guess M x1 x2 x3) K) : zCon lyC E yX11_guess cX11_guess 5 (some .int) 7 [zrf E 0, .int x1, .int x2, .int x3] M (zRm K) := by
  refine zcon_of (L0 := [(0, zrf E 0), (1, .int x1), (2, .int x2), (3, .int x3)]) (by decide) rfl (Nat.le_of_ble_eq_true rfl) (fun G h => ?_)
  have h : zRu lyC E G (zRm K) cX11_guess RX11 5 (some .int) 7 := h
  unfold f_X11_guess at hk
  refine zr_iload_n h dX11_guess_0 2 rfl rfl ?_
  refine zr_iload_n h dX11_guess_1 3 rfl rfl ?_
  refine zr_callSp h zcw_X11_231 (by decide) (c_X11_syllableOf E M x2 x3 _ (zOk_bind hk)) rfl rfl (Nat.le_of_ble_eq_true rfl) dX11_guess_2 (fun r_2 hk => ?_)
  refine zr_istore (L' := [(0, zrf E 0), (1, .int x1), (4, .int r_2)]) h [1, 2, 0] dX11_guess_5 (by decide) rfl ?_
  refine zr_aload_n h dX11_guess_7 0 rfl rfl ?_
  refine zr_getR h zfo_X11_19 lC_0 rfl dX11_guess_8 ?_
  refine zr_iload_n h dX11_guess_11 1 rfl rfl ?_
  refine zr_callVp h lC_3 zcw_X11_234 (by decide) (c_X0_has E M x1 _ (zOk_bind hk)) rfl rfl (Nat.le_of_ble_eq_true rfl) dX11_guess_12 (fun r_12 hk => ?_)
  refine zr_if_eq (tgt := 38) h dX11_guess_15 (by decide) (fun c => ?_) (fun c => ?_)
  · have hk := zOk_t c hk
    refine zr_iconst (v := (zI (-1))) h dX11_guess_38 rfl ?_
    have hk := zOk_some hk
    exact zr_iret h dX11_guess_39 ⟨_, rfl, hk⟩
  · have hk := zOk_f c hk
    refine zr_iload h dX11_guess_18 2 rfl ?_
    refine zr_bipush (v := (zI (-2))) h dX11_guess_20 (by decide) ?_
    refine zr_icmp_eq (tgt := 38) h dX11_guess_22 (by decide) (fun c => ?_) (fun c => ?_)
    · have hk := zOk_t c hk
      refine zr_iconst (v := (zI (-1))) h dX11_guess_38 rfl ?_
      have hk := zOk_some hk
      exact zr_iret h dX11_guess_39 ⟨_, rfl, hk⟩
    · have hk := zOk_f c hk
      refine zr_aload_n h dX11_guess_25 0 rfl rfl ?_
      refine zr_getR h zfo_X11_40 lC_0 rfl dX11_guess_26 ?_
      refine zr_iload_n h dX11_guess_29 1 rfl rfl ?_
      refine zr_iload h dX11_guess_30 2 rfl ?_
      refine zr_callVm h lC_20 zcw_X11_237 (by decide) (c_X1_tellGuess E M x1 r_2 _ (zOk_bind hk)) rfl rfl (Nat.le_of_ble_eq_true rfl) dX11_guess_32 (fun r_32 hk => ?_)
      refine zr_if_ne (tgt := 40) h dX11_guess_35 (by decide) (fun c => ?_) (fun c => ?_)
      · have hk := zOk_t c hk
        refine zr_iconst (v := (zI (-1))) h dX11_guess_38 rfl ?_
        have hk := zOk_some hk
        exact zr_iret h dX11_guess_39 ⟨_, rfl, hk⟩
      · have hk := zOk_f c hk
        refine zr_aload_n h dX11_guess_40 0 rfl rfl ?_
        refine zr_iconst (v := (zI 1)) h dX11_guess_41 rfl ?_
        refine zr_putZ h zfp_X11_134 lC_0 rfl (by decide) dX11_guess_42 ?_
        refine zr_mem (fun M_42 eM => ?_)
        have hk := zOk_bnd eM hk
        refine zr_aload_n h dX11_guess_45 0 rfl rfl ?_
        refine zr_callVv h lC_0 zcw_X11_210 (by decide) (c_X11_freshenGrid E M_42 _ (zOk_bind hk)) rfl rfl (Nat.le_of_ble_eq_true rfl) dX11_guess_46 (fun M_46 hk => ?_)
        refine zr_aload_n h dX11_guess_49 0 rfl rfl ?_
        refine zr_getR h zfo_X11_73 lC_0 rfl dX11_guess_50 ?_
        refine zr_callVp h lC_49 zcw_X11_240 (by decide) (c_X9_disputedSigns E M_46 _ (zOk_bind hk)) rfl rfl (Nat.le_of_ble_eq_true rfl) dX11_guess_53 (fun r_53 hk => ?_)
        have hk := zOk_some hk
        exact zr_iret h dX11_guess_56 ⟨_, rfl, hk⟩
theorem dX11_known_0 : decode cX11_known 0 = .ok (.aload_n 0, 1) := by decide +kernel
theorem dX11_known_1 : decode cX11_known 1 = .ok (.invokevirtual 210, 3) := by decide +kernel
theorem dX11_known_4 : decode cX11_known 4 = .ok (.aload_n 0, 1) := by decide +kernel
theorem dX11_known_5 : decode cX11_known 5 = .ok (.getfield 73, 3) := by decide +kernel
theorem dX11_known_8 : decode cX11_known 8 = .ok (.aload_n 0, 1) := by decide +kernel
theorem dX11_known_9 : decode cX11_known 9 = .ok (.getfield 19, 3) := by decide +kernel
theorem dX11_known_12 : decode cX11_known 12 = .ok (.iload_n 1, 1) := by decide +kernel
theorem dX11_known_13 : decode cX11_known 13 = .ok (.invokevirtual 144, 3) := by decide +kernel
theorem dX11_known_16 : decode cX11_known 16 = .ok (.iload_n 2, 1) := by decide +kernel
theorem dX11_known_17 : decode cX11_known 17 = .ok (.invokevirtual 243, 3) := by decide +kernel
theorem dX11_known_20 : decode cX11_known 20 = .ok (.ireturn, 1) := by decide +kernel
noncomputable def f_X11_known (M : ZMem) (x1 : Int32) (x2 : Int32) : Option (ZMem × Int32) := zbind (f_X11_freshenGrid M) (fun M_1 => zbind (f_X0_signOf M_1 x1) (fun r_13 => zbind (f_X9_factOf M_1 r_13 x2) (fun r_17 => some (M_1, r_17))))
set_option maxRecDepth 100000 in
set_option maxHeartbeats 4000000 in
theorem c_X11_known (E : ZEv) (M : ZMem) (x1 : Int32) (x2 : Int32) (K : ZMem × Int32 → Prop) (hk : zOk (f_X11_known M x1 x2) K) : zCon lyC E yX11_known cX11_known 3 (some .int) 7 [zrf E 0, .int x1, .int x2] M (zRm K) := by
  refine zcon_of (L0 := [(0, zrf E 0), (1, .int x1), (2, .int x2)]) (by decide) rfl (Nat.le_of_ble_eq_true rfl) (fun G h => ?_)
  have h : zRu lyC E G (zRm K) cX11_known RX11 3 (some .int) 7 := h
  unfold f_X11_known at hk
  refine zr_aload_n h dX11_known_0 0 rfl rfl ?_
  refine zr_callVv h lC_0 zcw_X11_210 (by decide) (c_X11_freshenGrid E M _ (zOk_bind hk)) rfl rfl (Nat.le_of_ble_eq_true rfl) dX11_known_1 (fun M_1 hk => ?_)
  refine zr_aload_n h dX11_known_4 0 rfl rfl ?_
  refine zr_getR h zfo_X11_73 lC_0 rfl dX11_known_5 ?_
  refine zr_aload_n h dX11_known_8 0 rfl rfl ?_
  refine zr_getR h zfo_X11_19 lC_0 rfl dX11_known_9 ?_
  refine zr_iload_n h dX11_known_12 1 rfl rfl ?_
  refine zr_callVp h lC_3 zcw_X11_144 (by decide) (c_X0_signOf E M_1 x1 _ (zOk_bind hk)) rfl rfl (Nat.le_of_ble_eq_true rfl) dX11_known_13 (fun r_13 hk => ?_)
  refine zr_iload_n h dX11_known_16 2 rfl rfl ?_
  refine zr_callVp h lC_49 zcw_X11_243 (by decide) (c_X9_factOf E M_1 r_13 x2 _ (zOk_bind hk)) rfl rfl (Nat.le_of_ble_eq_true rfl) dX11_known_17 (fun r_17 hk => ?_)
  have hk := zOk_some hk
  exact zr_iret h dX11_known_20 ⟨_, rfl, hk⟩
theorem dX11_fits_0 : decode cX11_fits 0 = .ok (.aload_n 0, 1) := by decide +kernel
theorem dX11_fits_1 : decode cX11_fits 1 = .ok (.getfield 33, 3) := by decide +kernel
theorem dX11_fits_4 : decode cX11_fits 4 = .ok (.iload_n 1, 1) := by decide +kernel
theorem dX11_fits_5 : decode cX11_fits 5 = .ok (.invokevirtual 246, 3) := by decide +kernel
theorem dX11_fits_8 : decode cX11_fits 8 = .ok (.ifCond .ne 5, 3) := by decide +kernel
theorem dX11_fits_11 : decode cX11_fits 11 = .ok (.iconst (-1), 1) := by decide +kernel
theorem dX11_fits_12 : decode cX11_fits 12 = .ok (.ireturn, 1) := by decide +kernel
theorem dX11_fits_13 : decode cX11_fits 13 = .ok (.aload_n 0, 1) := by decide +kernel
theorem dX11_fits_14 : decode cX11_fits 14 = .ok (.invokevirtual 210, 3) := by decide +kernel
theorem dX11_fits_17 : decode cX11_fits 17 = .ok (.iload_n 2, 1) := by decide +kernel
theorem dX11_fits_18 : decode cX11_fits 18 = .ok (.iconst (-1), 1) := by decide +kernel
theorem dX11_fits_19 : decode cX11_fits 19 = .ok (.if_icmp .ne 14, 3) := by decide +kernel
theorem dX11_fits_22 : decode cX11_fits 22 = .ok (.aload_n 0, 1) := by decide +kernel
theorem dX11_fits_23 : decode cX11_fits 23 = .ok (.getfield 82, 3) := by decide +kernel
theorem dX11_fits_26 : decode cX11_fits 26 = .ok (.iload_n 1, 1) := by decide +kernel
theorem dX11_fits_27 : decode cX11_fits 27 = .ok (.invokevirtual 247, 3) := by decide +kernel
theorem dX11_fits_30 : decode cX11_fits 30 = .ok (.goto 12, 3) := by decide +kernel
theorem dX11_fits_33 : decode cX11_fits 33 = .ok (.aload_n 0, 1) := by decide +kernel
theorem dX11_fits_34 : decode cX11_fits 34 = .ok (.getfield 82, 3) := by decide +kernel
theorem dX11_fits_37 : decode cX11_fits 37 = .ok (.iload_n 1, 1) := by decide +kernel
theorem dX11_fits_38 : decode cX11_fits 38 = .ok (.iload_n 2, 1) := by decide +kernel
theorem dX11_fits_39 : decode cX11_fits 39 = .ok (.invokevirtual 250, 3) := by decide +kernel
theorem dX11_fits_42 : decode cX11_fits 42 = .ok (.ireturn, 1) := by decide +kernel
noncomputable def f_X11_fits (M : ZMem) (x1 : Int32) (x2 : Int32) : Option (ZMem × Int32) := zbind (f_X4_has M x1) (fun r_5 => if r_5 = (zI 0) then some (M, (zI (-1))) else zbind (f_X11_freshenGrid M) (fun M_14 => if x2 = (zI (-1)) then zbind (f_X3_fitting M_14 x1) (fun r_27 => some (M_14, r_27)) else zbind (f_X3_fittingWord M_14 x1 x2) (fun r_39 => some (M_14, r_39))))
set_option maxRecDepth 100000 in
set_option maxHeartbeats 4000000 in
theorem c_X11_fits (E : ZEv) (M : ZMem) (x1 : Int32) (x2 : Int32) (K : ZMem × Int32 → Prop) (hk : zOk (f_X11_fits M x1 x2) K) : zCon lyC E yX11_fits cX11_fits 3 (some .int) 7 [zrf E 0, .int x1, .int x2] M (zRm K) := by
  refine zcon_of (L0 := [(0, zrf E 0), (1, .int x1), (2, .int x2)]) (by decide) rfl (Nat.le_of_ble_eq_true rfl) (fun G h => ?_)
  have h : zRu lyC E G (zRm K) cX11_fits RX11 3 (some .int) 7 := h
  unfold f_X11_fits at hk
  refine zr_aload_n h dX11_fits_0 0 rfl rfl ?_
  refine zr_getR h zfo_X11_33 lC_0 rfl dX11_fits_1 ?_
  refine zr_iload_n h dX11_fits_4 1 rfl rfl ?_
  refine zr_callVp h lC_17 zcw_X11_246 (by decide) (c_X4_has E M x1 _ (zOk_bind hk)) rfl rfl (Nat.le_of_ble_eq_true rfl) dX11_fits_5 (fun r_5 hk => ?_)
  refine zr_if_ne (tgt := 13) h dX11_fits_8 (by decide) (fun c => ?_) (fun c => ?_)
  · have hk := zOk_t c hk
    refine zr_iconst (v := (zI (-1))) h dX11_fits_11 rfl ?_
    have hk := zOk_some hk
    exact zr_iret h dX11_fits_12 ⟨_, rfl, hk⟩
  · have hk := zOk_f c hk
    refine zr_aload_n h dX11_fits_13 0 rfl rfl ?_
    refine zr_callVv h lC_0 zcw_X11_210 (by decide) (c_X11_freshenGrid E M _ (zOk_bind hk)) rfl rfl (Nat.le_of_ble_eq_true rfl) dX11_fits_14 (fun M_14 hk => ?_)
    refine zr_iload_n h dX11_fits_17 2 rfl rfl ?_
    refine zr_iconst (v := (zI (-1))) h dX11_fits_18 rfl ?_
    refine zr_icmp_ne (tgt := 33) h dX11_fits_19 (by decide) (fun c => ?_) (fun c => ?_)
    · have hk := zOk_t c hk
      refine zr_aload_n h dX11_fits_22 0 rfl rfl ?_
      refine zr_getR h zfo_X11_82 lC_0 rfl dX11_fits_23 ?_
      refine zr_iload_n h dX11_fits_26 1 rfl rfl ?_
      refine zr_callVp h lC_54 zcw_X11_247 (by decide) (c_X3_fitting E M_14 x1 _ (zOk_bind hk)) rfl rfl (Nat.le_of_ble_eq_true rfl) dX11_fits_27 (fun r_27 hk => ?_)
      refine zr_goto (tgt := 42) h dX11_fits_30 (by decide) ?_
      have hk := zOk_some hk
      exact zr_iret h dX11_fits_42 ⟨_, rfl, hk⟩
    · have hk := zOk_f c hk
      refine zr_aload_n h dX11_fits_33 0 rfl rfl ?_
      refine zr_getR h zfo_X11_82 lC_0 rfl dX11_fits_34 ?_
      refine zr_iload_n h dX11_fits_37 1 rfl rfl ?_
      refine zr_iload_n h dX11_fits_38 2 rfl rfl ?_
      refine zr_callVp h lC_54 zcw_X11_250 (by decide) (c_X3_fittingWord E M_14 x1 x2 _ (zOk_bind hk)) rfl rfl (Nat.le_of_ble_eq_true rfl) dX11_fits_39 (fun r_39 hk => ?_)
      have hk := zOk_some hk
      exact zr_iret h dX11_fits_42 ⟨_, rfl, hk⟩
theorem dX11_hits_0 : decode cX11_hits 0 = .ok (.aload_n 0, 1) := by decide +kernel
theorem dX11_hits_1 : decode cX11_hits 1 = .ok (.invokevirtual 210, 3) := by decide +kernel
theorem dX11_hits_4 : decode cX11_hits 4 = .ok (.aload_n 0, 1) := by decide +kernel
theorem dX11_hits_5 : decode cX11_hits 5 = .ok (.getfield 82, 3) := by decide +kernel
theorem dX11_hits_8 : decode cX11_hits 8 = .ok (.invokevirtual 253, 3) := by decide +kernel
theorem dX11_hits_11 : decode cX11_hits 11 = .ok (.ireturn, 1) := by decide +kernel
noncomputable def f_X11_hits (M : ZMem) : Option (ZMem × Int32) := zbind (f_X11_freshenGrid M) (fun M_1 => zbind (f_X3_hitsNow M_1) (fun r_8 => some (M_1, r_8)))
set_option maxRecDepth 100000 in
set_option maxHeartbeats 4000000 in
theorem c_X11_hits (E : ZEv) (M : ZMem) (K : ZMem × Int32 → Prop) (hk : zOk (f_X11_hits M) K) : zCon lyC E yX11_hits cX11_hits 1 (some .int) 7 [zrf E 0] M (zRm K) := by
  refine zcon_of (L0 := [(0, zrf E 0)]) (by decide) rfl (Nat.le_of_ble_eq_true rfl) (fun G h => ?_)
  have h : zRu lyC E G (zRm K) cX11_hits RX11 1 (some .int) 7 := h
  unfold f_X11_hits at hk
  refine zr_aload_n h dX11_hits_0 0 rfl rfl ?_
  refine zr_callVv h lC_0 zcw_X11_210 (by decide) (c_X11_freshenGrid E M _ (zOk_bind hk)) rfl rfl (Nat.le_of_ble_eq_true rfl) dX11_hits_1 (fun M_1 hk => ?_)
  refine zr_aload_n h dX11_hits_4 0 rfl rfl ?_
  refine zr_getR h zfo_X11_82 lC_0 rfl dX11_hits_5 ?_
  refine zr_callVp h lC_54 zcw_X11_253 (by decide) (c_X3_hitsNow E M_1 _ (zOk_bind hk)) rfl rfl (Nat.le_of_ble_eq_true rfl) dX11_hits_8 (fun r_8 hk => ?_)
  have hk := zOk_some hk
  exact zr_iret h dX11_hits_11 ⟨_, rfl, hk⟩
theorem dX11_ways_0 : decode cX11_ways 0 = .ok (.iload_n 1, 1) := by decide +kernel
theorem dX11_ways_1 : decode cX11_ways 1 = .ok (.iconst (-1), 1) := by decide +kernel
theorem dX11_ways_2 : decode cX11_ways 2 = .ok (.if_icmp .eq 16, 3) := by decide +kernel
theorem dX11_ways_5 : decode cX11_ways 5 = .ok (.aload_n 0, 1) := by decide +kernel
theorem dX11_ways_6 : decode cX11_ways 6 = .ok (.getfield 33, 3) := by decide +kernel
theorem dX11_ways_9 : decode cX11_ways 9 = .ok (.iload_n 1, 1) := by decide +kernel
theorem dX11_ways_10 : decode cX11_ways 10 = .ok (.invokevirtual 246, 3) := by decide +kernel
theorem dX11_ways_13 : decode cX11_ways 13 = .ok (.ifCond .ne 5, 3) := by decide +kernel
theorem dX11_ways_16 : decode cX11_ways 16 = .ok (.iconst (-1), 1) := by decide +kernel
theorem dX11_ways_17 : decode cX11_ways 17 = .ok (.ireturn, 1) := by decide +kernel
theorem dX11_ways_18 : decode cX11_ways 18 = .ok (.aload_n 0, 1) := by decide +kernel
theorem dX11_ways_19 : decode cX11_ways 19 = .ok (.invokevirtual 210, 3) := by decide +kernel
theorem dX11_ways_22 : decode cX11_ways 22 = .ok (.aload_n 0, 1) := by decide +kernel
theorem dX11_ways_23 : decode cX11_ways 23 = .ok (.getfield 256, 3) := by decide +kernel
theorem dX11_ways_26 : decode cX11_ways 26 = .ok (.ifCond .eq 15, 3) := by decide +kernel
theorem dX11_ways_29 : decode cX11_ways 29 = .ok (.aload_n 0, 1) := by decide +kernel
theorem dX11_ways_30 : decode cX11_ways 30 = .ok (.getfield 91, 3) := by decide +kernel
theorem dX11_ways_33 : decode cX11_ways 33 = .ok (.invokevirtual 259, 3) := by decide +kernel
theorem dX11_ways_36 : decode cX11_ways 36 = .ok (.aload_n 0, 1) := by decide +kernel
theorem dX11_ways_37 : decode cX11_ways 37 = .ok (.iconst 0, 1) := by decide +kernel
theorem dX11_ways_38 : decode cX11_ways 38 = .ok (.putfield 256, 3) := by decide +kernel
theorem dX11_ways_41 : decode cX11_ways 41 = .ok (.iload_n 1, 1) := by decide +kernel
theorem dX11_ways_42 : decode cX11_ways 42 = .ok (.iconst (-1), 1) := by decide +kernel
theorem dX11_ways_43 : decode cX11_ways 43 = .ok (.if_icmp .ne 13, 3) := by decide +kernel
theorem dX11_ways_46 : decode cX11_ways 46 = .ok (.aload_n 0, 1) := by decide +kernel
theorem dX11_ways_47 : decode cX11_ways 47 = .ok (.getfield 91, 3) := by decide +kernel
theorem dX11_ways_50 : decode cX11_ways 50 = .ok (.invokevirtual 262, 3) := by decide +kernel
theorem dX11_ways_53 : decode cX11_ways 53 = .ok (.goto 11, 3) := by decide +kernel
theorem dX11_ways_56 : decode cX11_ways 56 = .ok (.aload_n 0, 1) := by decide +kernel
theorem dX11_ways_57 : decode cX11_ways 57 = .ok (.getfield 91, 3) := by decide +kernel
theorem dX11_ways_60 : decode cX11_ways 60 = .ok (.iload_n 1, 1) := by decide +kernel
theorem dX11_ways_61 : decode cX11_ways 61 = .ok (.invokevirtual 265, 3) := by decide +kernel
theorem dX11_ways_64 : decode cX11_ways 64 = .ok (.ireturn, 1) := by decide +kernel
noncomputable def f_X11_ways_41 (M : ZMem) (x1 : Int32) : Option (ZMem × Int32) := if x1 = (zI (-1)) then zbind (f_X10_found M) (fun r_50 => some (M, r_50)) else zbind (f_X10_firstWord M x1) (fun r_61 => some (M, r_61))
set_option maxRecDepth 100000 in
set_option maxHeartbeats 4000000 in
theorem w_X11_ways_41 {E : ZEv} {G : ZG} {K : (ZMem × Int32) → Prop} (h : zRu lyC E G (zRm K) cX11_ways RX11 2 (some .int) 42) (M : ZMem) (x1 : Int32) (hk : zOk (f_X11_ways_41 M x1) K) : G M 41 [(0, zrf E 0), (1, .int x1)] [] := by
  unfold f_X11_ways_41 at hk
  refine zr_iload_n h dX11_ways_41 1 rfl rfl ?_
  refine zr_iconst (v := (zI (-1))) h dX11_ways_42 rfl ?_
  refine zr_icmp_ne (tgt := 56) h dX11_ways_43 (by decide) (fun c => ?_) (fun c => ?_)
  · have hk := zOk_t c hk
    refine zr_aload_n h dX11_ways_46 0 rfl rfl ?_
    refine zr_getR h zfo_X11_91 lC_0 rfl dX11_ways_47 ?_
    refine zr_callVp h lC_59 zcw_X11_262 (by decide) (c_X10_found E M _ (zOk_bind hk)) rfl rfl (Nat.le_of_ble_eq_true rfl) dX11_ways_50 (fun r_50 hk => ?_)
    refine zr_goto (tgt := 64) h dX11_ways_53 (by decide) ?_
    have hk := zOk_some hk
    exact zr_iret h dX11_ways_64 ⟨_, rfl, hk⟩
  · have hk := zOk_f c hk
    refine zr_aload_n h dX11_ways_56 0 rfl rfl ?_
    refine zr_getR h zfo_X11_91 lC_0 rfl dX11_ways_57 ?_
    refine zr_iload_n h dX11_ways_60 1 rfl rfl ?_
    refine zr_callVp h lC_59 zcw_X11_265 (by decide) (c_X10_firstWord E M x1 _ (zOk_bind hk)) rfl rfl (Nat.le_of_ble_eq_true rfl) dX11_ways_61 (fun r_61 hk => ?_)
    have hk := zOk_some hk
    exact zr_iret h dX11_ways_64 ⟨_, rfl, hk⟩
noncomputable def f_X11_ways_18 (M : ZMem) (x1 : Int32) : Option (ZMem × Int32) := zbind (f_X11_freshenGrid M) (fun M_19 => if (M_19.1 0 15) = (zI 0) then f_X11_ways_41 M_19 x1 else zbind (f_X10_settle M_19) (fun M_33 => zbnd (zstI M_33 0 15 (zI 0)) (fun M_38 => f_X11_ways_41 M_38 x1)))
set_option maxRecDepth 100000 in
set_option maxHeartbeats 4000000 in
theorem w_X11_ways_18 {E : ZEv} {G : ZG} {K : (ZMem × Int32) → Prop} (h : zRu lyC E G (zRm K) cX11_ways RX11 2 (some .int) 42) (M : ZMem) (x1 : Int32) (hk : zOk (f_X11_ways_18 M x1) K) : G M 18 [(0, zrf E 0), (1, .int x1)] [] := by
  unfold f_X11_ways_18 at hk
  refine zr_aload_n h dX11_ways_18 0 rfl rfl ?_
  refine zr_callVv h lC_0 zcw_X11_210 (by decide) (c_X11_freshenGrid E M _ (zOk_bind hk)) rfl rfl (Nat.le_of_ble_eq_true rfl) dX11_ways_19 (fun M_19 hk => ?_)
  refine zr_aload_n h dX11_ways_22 0 rfl rfl ?_
  refine zr_getI h zfo_X11_256 lC_0 rfl dX11_ways_23 ?_
  refine zr_if_eq (tgt := 41) h dX11_ways_26 (by decide) (fun c => ?_) (fun c => ?_)
  · have hk := zOk_t c hk
    exact w_X11_ways_41 h M_19 x1 hk
  · have hk := zOk_f c hk
    refine zr_aload_n h dX11_ways_29 0 rfl rfl ?_
    refine zr_getR h zfo_X11_91 lC_0 rfl dX11_ways_30 ?_
    refine zr_callVv h lC_59 zcw_X11_259 (by decide) (c_X10_settle E M_19 _ (zOk_bind hk)) rfl rfl (Nat.le_of_ble_eq_true rfl) dX11_ways_33 (fun M_33 hk => ?_)
    refine zr_aload_n h dX11_ways_36 0 rfl rfl ?_
    refine zr_iconst (v := (zI 0)) h dX11_ways_37 rfl ?_
    refine zr_putZ h zfp_X11_256 lC_0 rfl (by decide) dX11_ways_38 ?_
    refine zr_mem (fun M_38 eM => ?_)
    have hk := zOk_bnd eM hk
    exact w_X11_ways_41 h M_38 x1 hk
noncomputable def f_X11_ways (M : ZMem) (x1 : Int32) : Option (ZMem × Int32) := if x1 = (zI (-1)) then f_X11_ways_18 M x1 else zbind (f_X4_has M x1) (fun r_10 => if r_10 = (zI 0) then some (M, (zI (-1))) else f_X11_ways_18 M x1)
set_option maxRecDepth 100000 in
set_option maxHeartbeats 4000000 in
theorem c_X11_ways (E : ZEv) (M : ZMem) (x1 : Int32) (K : ZMem × Int32 → Prop) (hk : zOk (f_X11_ways M x1) K) : zCon lyC E yX11_ways cX11_ways 2 (some .int) 42 [zrf E 0, .int x1] M (zRm K) := by
  refine zcon_of (L0 := [(0, zrf E 0), (1, .int x1)]) (by decide) rfl (Nat.le_of_ble_eq_true rfl) (fun G h => ?_)
  have h : zRu lyC E G (zRm K) cX11_ways RX11 2 (some .int) 42 := h
  unfold f_X11_ways at hk
  refine zr_iload_n h dX11_ways_0 1 rfl rfl ?_
  refine zr_iconst (v := (zI (-1))) h dX11_ways_1 rfl ?_
  refine zr_icmp_eq (tgt := 18) h dX11_ways_2 (by decide) (fun c => ?_) (fun c => ?_)
  · have hk := zOk_t c hk
    exact w_X11_ways_18 h M x1 hk
  · have hk := zOk_f c hk
    refine zr_aload_n h dX11_ways_5 0 rfl rfl ?_
    refine zr_getR h zfo_X11_33 lC_0 rfl dX11_ways_6 ?_
    refine zr_iload_n h dX11_ways_9 1 rfl rfl ?_
    refine zr_callVp h lC_17 zcw_X11_246 (by decide) (c_X4_has E M x1 _ (zOk_bind hk)) rfl rfl (Nat.le_of_ble_eq_true rfl) dX11_ways_10 (fun r_10 hk => ?_)
    refine zr_if_ne (tgt := 18) h dX11_ways_13 (by decide) (fun c => ?_) (fun c => ?_)
    · have hk := zOk_t c hk
      refine zr_iconst (v := (zI (-1))) h dX11_ways_16 rfl ?_
      have hk := zOk_some hk
      exact zr_iret h dX11_ways_17 ⟨_, rfl, hk⟩
    · have hk := zOk_f c hk
      exact w_X11_ways_18 h M x1 hk
theorem dX11_draws_0 : decode cX11_draws 0 = .ok (.iload_n 1, 1) := by decide +kernel
theorem dX11_draws_1 : decode cX11_draws 1 = .ok (.ifCond .ge 5, 3) := by decide +kernel
theorem dX11_draws_4 : decode cX11_draws 4 = .ok (.iconst (-1), 1) := by decide +kernel
theorem dX11_draws_5 : decode cX11_draws 5 = .ok (.ireturn, 1) := by decide +kernel
theorem dX11_draws_6 : decode cX11_draws 6 = .ok (.aload_n 0, 1) := by decide +kernel
theorem dX11_draws_7 : decode cX11_draws 7 = .ok (.getfield 268, 3) := by decide +kernel
theorem dX11_draws_10 : decode cX11_draws 10 = .ok (.istore_n 2, 1) := by decide +kernel
theorem dX11_draws_11 : decode cX11_draws 11 = .ok (.aload_n 0, 1) := by decide +kernel
theorem dX11_draws_12 : decode cX11_draws 12 = .ok (.iload_n 1, 1) := by decide +kernel
theorem dX11_draws_13 : decode cX11_draws 13 = .ok (.putfield 268, 3) := by decide +kernel
theorem dX11_draws_16 : decode cX11_draws 16 = .ok (.iload_n 2, 1) := by decide +kernel
theorem dX11_draws_17 : decode cX11_draws 17 = .ok (.ireturn, 1) := by decide +kernel
noncomputable def f_X11_draws (M : ZMem) (x1 : Int32) : Option (ZMem × Int32) := if (zI 0) ≤ x1 then zbnd (M.1 0 12) (fun x2_10 => zbnd (zstI M 0 12 x1) (fun M_13 => some (M_13, x2_10))) else some (M, (zI (-1)))
set_option maxRecDepth 100000 in
set_option maxHeartbeats 4000000 in
theorem c_X11_draws (E : ZEv) (M : ZMem) (x1 : Int32) (K : ZMem × Int32 → Prop) (hk : zOk (f_X11_draws M x1) K) : zCon lyC E yX11_draws cX11_draws 3 (some .int) 0 [zrf E 0, .int x1] M (zRm K) := by
  refine zcon_of (L0 := [(0, zrf E 0), (1, .int x1)]) (by decide) rfl (Nat.le_of_ble_eq_true rfl) (fun G h => ?_)
  have h : zRu lyC E G (zRm K) cX11_draws RX11 3 (some .int) 0 := h
  unfold f_X11_draws at hk
  refine zr_iload_n h dX11_draws_0 1 rfl rfl ?_
  refine zr_if_ge (tgt := 6) h dX11_draws_1 (by decide) (fun c => ?_) (fun c => ?_)
  · have hk := zOk_t c hk
    refine zr_aload_n h dX11_draws_6 0 rfl rfl ?_
    refine zr_getI h zfo_X11_268 lC_0 rfl dX11_draws_7 ?_
    refine zr_topi (fun x2_10 ex => ?_)
    have hk := zOk_bnd ex hk
    refine zr_istore_n (L' := [(0, zrf E 0), (1, .int x1), (2, .int x2_10)]) h [1, 2, 0] dX11_draws_10 rfl (by decide) rfl ?_
    refine zr_aload_n h dX11_draws_11 0 rfl rfl ?_
    refine zr_iload_n h dX11_draws_12 1 rfl rfl ?_
    refine zr_putI h zfp_X11_268 lC_0 rfl dX11_draws_13 ?_
    refine zr_mem (fun M_13 eM => ?_)
    have hk := zOk_bnd eM hk
    refine zr_iload_n h dX11_draws_16 2 rfl rfl ?_
    have hk := zOk_some hk
    exact zr_iret h dX11_draws_17 ⟨_, rfl, hk⟩
  · have hk := zOk_f c hk
    refine zr_iconst (v := (zI (-1))) h dX11_draws_4 rfl ?_
    have hk := zOk_some hk
    exact zr_iret h dX11_draws_5 ⟨_, rfl, hk⟩
theorem dX11_test_0 : decode cX11_test 0 = .ok (.iload_n 1, 1) := by decide +kernel
theorem dX11_test_1 : decode cX11_test 1 = .ok (.iconst 1, 1) := by decide +kernel
theorem dX11_test_2 : decode cX11_test 2 = .ok (.if_icmp .lt 9, 3) := by decide +kernel
theorem dX11_test_5 : decode cX11_test 5 = .ok (.iload_n 1, 1) := by decide +kernel
theorem dX11_test_6 : decode cX11_test 6 = .ok (.bipush 50, 2) := by decide +kernel
theorem dX11_test_8 : decode cX11_test 8 = .ok (.if_icmp .le 5, 3) := by decide +kernel
theorem dX11_test_11 : decode cX11_test 11 = .ok (.iconst (-1), 1) := by decide +kernel
theorem dX11_test_12 : decode cX11_test 12 = .ok (.ireturn, 1) := by decide +kernel
theorem dX11_test_13 : decode cX11_test 13 = .ok (.aload_n 0, 1) := by decide +kernel
theorem dX11_test_14 : decode cX11_test 14 = .ok (.invokevirtual 210, 3) := by decide +kernel
theorem dX11_test_17 : decode cX11_test 17 = .ok (.aload_n 0, 1) := by decide +kernel
theorem dX11_test_18 : decode cX11_test 18 = .ok (.getfield 82, 3) := by decide +kernel
theorem dX11_test_21 : decode cX11_test 21 = .ok (.iload_n 1, 1) := by decide +kernel
theorem dX11_test_22 : decode cX11_test 22 = .ok (.aload_n 0, 1) := by decide +kernel
theorem dX11_test_23 : decode cX11_test 23 = .ok (.getfield 268, 3) := by decide +kernel
theorem dX11_test_26 : decode cX11_test 26 = .ok (.invokevirtual 272, 3) := by decide +kernel
theorem dX11_test_29 : decode cX11_test 29 = .ok (.ireturn, 1) := by decide +kernel
noncomputable def f_X11_test (M : ZMem) (x1 : Int32) : Option (ZMem × Int32) := if x1 < (zI 1) then some (M, (zI (-1))) else if x1 ≤ (zI 50) then zbind (f_X11_freshenGrid M) (fun M_14 => zbind (f_X3_asGoodByChance M_14 x1 (M_14.1 0 12)) (fun r_26 => some (r_26.1, r_26.2))) else some (M, (zI (-1)))
set_option maxRecDepth 100000 in
set_option maxHeartbeats 4000000 in
theorem c_X11_test (E : ZEv) (M : ZMem) (x1 : Int32) (K : ZMem × Int32 → Prop) (hk : zOk (f_X11_test M x1) K) : zCon lyC E yX11_test cX11_test 2 (some .int) 7 [zrf E 0, .int x1] M (zRm K) := by
  refine zcon_of (L0 := [(0, zrf E 0), (1, .int x1)]) (by decide) rfl (Nat.le_of_ble_eq_true rfl) (fun G h => ?_)
  have h : zRu lyC E G (zRm K) cX11_test RX11 2 (some .int) 7 := h
  unfold f_X11_test at hk
  refine zr_iload_n h dX11_test_0 1 rfl rfl ?_
  refine zr_iconst (v := (zI 1)) h dX11_test_1 rfl ?_
  refine zr_icmp_lt (tgt := 11) h dX11_test_2 (by decide) (fun c => ?_) (fun c => ?_)
  · have hk := zOk_t c hk
    refine zr_iconst (v := (zI (-1))) h dX11_test_11 rfl ?_
    have hk := zOk_some hk
    exact zr_iret h dX11_test_12 ⟨_, rfl, hk⟩
  · have hk := zOk_f c hk
    refine zr_iload_n h dX11_test_5 1 rfl rfl ?_
    refine zr_bipush (v := (zI 50)) h dX11_test_6 (by decide) ?_
    refine zr_icmp_le (tgt := 13) h dX11_test_8 (by decide) (fun c => ?_) (fun c => ?_)
    · have hk := zOk_t c hk
      refine zr_aload_n h dX11_test_13 0 rfl rfl ?_
      refine zr_callVv h lC_0 zcw_X11_210 (by decide) (c_X11_freshenGrid E M _ (zOk_bind hk)) rfl rfl (Nat.le_of_ble_eq_true rfl) dX11_test_14 (fun M_14 hk => ?_)
      refine zr_aload_n h dX11_test_17 0 rfl rfl ?_
      refine zr_getR h zfo_X11_82 lC_0 rfl dX11_test_18 ?_
      refine zr_iload_n h dX11_test_21 1 rfl rfl ?_
      refine zr_aload_n h dX11_test_22 0 rfl rfl ?_
      refine zr_getI h zfo_X11_268 lC_0 rfl dX11_test_23 ?_
      refine zr_callVm h lC_54 zcw_X11_272 (by decide) (c_X3_asGoodByChance E M_14 x1 (M_14.1 0 12) _ (zOk_bind hk)) rfl rfl (Nat.le_of_ble_eq_true rfl) dX11_test_26 (fun r_26 hk => ?_)
      have hk := zOk_some hk
      exact zr_iret h dX11_test_29 ⟨_, rfl, hk⟩
    · have hk := zOk_f c hk
      refine zr_iconst (v := (zI (-1))) h dX11_test_11 rfl ?_
      have hk := zOk_some hk
      exact zr_iret h dX11_test_12 ⟨_, rfl, hk⟩
theorem dX11_undo_0 : decode cX11_undo 0 = .ok (.aload_n 0, 1) := by decide +kernel
theorem dX11_undo_1 : decode cX11_undo 1 = .ok (.getfield 40, 3) := by decide +kernel
theorem dX11_undo_4 : decode cX11_undo 4 = .ok (.invokevirtual 275, 3) := by decide +kernel
theorem dX11_undo_7 : decode cX11_undo 7 = .ok (.istore_n 1, 1) := by decide +kernel
theorem dX11_undo_8 : decode cX11_undo 8 = .ok (.iload_n 1, 1) := by decide +kernel
theorem dX11_undo_9 : decode cX11_undo 9 = .ok (.iconst (-1), 1) := by decide +kernel
theorem dX11_undo_10 : decode cX11_undo 10 = .ok (.if_icmp .ne 5, 3) := by decide +kernel
theorem dX11_undo_13 : decode cX11_undo 13 = .ok (.iconst (-1), 1) := by decide +kernel
theorem dX11_undo_14 : decode cX11_undo 14 = .ok (.ireturn, 1) := by decide +kernel
theorem dX11_undo_15 : decode cX11_undo 15 = .ok (.iload_n 1, 1) := by decide +kernel
theorem dX11_undo_16 : decode cX11_undo 16 = .ok (.iconst 4, 1) := by decide +kernel
theorem dX11_undo_17 : decode cX11_undo 17 = .ok (.if_icmp .eq 8, 3) := by decide +kernel
theorem dX11_undo_20 : decode cX11_undo 20 = .ok (.iload_n 1, 1) := by decide +kernel
theorem dX11_undo_21 : decode cX11_undo 21 = .ok (.iconst 5, 1) := by decide +kernel
theorem dX11_undo_22 : decode cX11_undo 22 = .ok (.if_icmp .ne 11, 3) := by decide +kernel
theorem dX11_undo_25 : decode cX11_undo 25 = .ok (.aload_n 0, 1) := by decide +kernel
theorem dX11_undo_26 : decode cX11_undo 26 = .ok (.iconst 1, 1) := by decide +kernel
theorem dX11_undo_27 : decode cX11_undo 27 = .ok (.putfield 134, 3) := by decide +kernel
theorem dX11_undo_30 : decode cX11_undo 30 = .ok (.goto 8, 3) := by decide +kernel
theorem dX11_undo_33 : decode cX11_undo 33 = .ok (.aload_n 0, 1) := by decide +kernel
theorem dX11_undo_34 : decode cX11_undo 34 = .ok (.iconst 1, 1) := by decide +kernel
theorem dX11_undo_35 : decode cX11_undo 35 = .ok (.putfield 95, 3) := by decide +kernel
theorem dX11_undo_38 : decode cX11_undo 38 = .ok (.aload_n 0, 1) := by decide +kernel
theorem dX11_undo_39 : decode cX11_undo 39 = .ok (.getfield 40, 3) := by decide +kernel
theorem dX11_undo_42 : decode cX11_undo 42 = .ok (.invokevirtual 278, 3) := by decide +kernel
theorem dX11_undo_45 : decode cX11_undo 45 = .ok (.ireturn, 1) := by decide +kernel
noncomputable def f_X11_undo_38 (M : ZMem) : Option (ZMem × Int32) := zbind (f_X1_actsHeld M) (fun r_42 => some (M, r_42))
set_option maxRecDepth 100000 in
set_option maxHeartbeats 4000000 in
theorem w_X11_undo_38 {E : ZEv} {G : ZG} {K : (ZMem × Int32) → Prop} (h : zRu lyC E G (zRm K) cX11_undo RX11 2 (some .int) 2) (M : ZMem) (hk : zOk (f_X11_undo_38 M) K) : G M 38 [(0, zrf E 0)] [] := by
  unfold f_X11_undo_38 at hk
  refine zr_aload_n h dX11_undo_38 0 rfl rfl ?_
  refine zr_getR h zfo_X11_40 lC_0 rfl dX11_undo_39 ?_
  refine zr_callVp h lC_20 zcw_X11_278 (by decide) (c_X1_actsHeld E M _ (zOk_bind hk)) rfl rfl (Nat.le_of_ble_eq_true rfl) dX11_undo_42 (fun r_42 hk => ?_)
  have hk := zOk_some hk
  exact zr_iret h dX11_undo_45 ⟨_, rfl, hk⟩
noncomputable def f_X11_undo_25 (M : ZMem) : Option (ZMem × Int32) := zbnd (zstI M 0 14 (zI 1)) (fun M_27 => f_X11_undo_38 M_27)
set_option maxRecDepth 100000 in
set_option maxHeartbeats 4000000 in
theorem w_X11_undo_25 {E : ZEv} {G : ZG} {K : (ZMem × Int32) → Prop} (h : zRu lyC E G (zRm K) cX11_undo RX11 2 (some .int) 2) (M : ZMem) (hk : zOk (f_X11_undo_25 M) K) : G M 25 [(0, zrf E 0)] [] := by
  unfold f_X11_undo_25 at hk
  refine zr_aload_n h dX11_undo_25 0 rfl rfl ?_
  refine zr_iconst (v := (zI 1)) h dX11_undo_26 rfl ?_
  refine zr_putZ h zfp_X11_134 lC_0 rfl (by decide) dX11_undo_27 ?_
  refine zr_mem (fun M_27 eM => ?_)
  have hk := zOk_bnd eM hk
  refine zr_goto (tgt := 38) h dX11_undo_30 (by decide) ?_
  exact w_X11_undo_38 h M_27 hk
noncomputable def f_X11_undo (M : ZMem) : Option (ZMem × Int32) := zbind (f_X1_undoLast M) (fun r_4 => if r_4.2 = (zI (-1)) then some (r_4.1, (zI (-1))) else if r_4.2 = (zI 4) then f_X11_undo_25 r_4.1 else if r_4.2 = (zI 5) then f_X11_undo_25 r_4.1 else zbnd (zstI r_4.1 0 13 (zI 1)) (fun M_35 => f_X11_undo_38 M_35))
set_option maxRecDepth 100000 in
set_option maxHeartbeats 4000000 in
theorem c_X11_undo (E : ZEv) (M : ZMem) (K : ZMem × Int32 → Prop) (hk : zOk (f_X11_undo M) K) : zCon lyC E yX11_undo cX11_undo 2 (some .int) 2 [zrf E 0] M (zRm K) := by
  refine zcon_of (L0 := [(0, zrf E 0)]) (by decide) rfl (Nat.le_of_ble_eq_true rfl) (fun G h => ?_)
  have h : zRu lyC E G (zRm K) cX11_undo RX11 2 (some .int) 2 := h
  unfold f_X11_undo at hk
  refine zr_aload_n h dX11_undo_0 0 rfl rfl ?_
  refine zr_getR h zfo_X11_40 lC_0 rfl dX11_undo_1 ?_
  refine zr_callVm h lC_20 zcw_X11_275 (by decide) (c_X1_undoLast E M _ (zOk_bind hk)) rfl rfl (Nat.le_of_ble_eq_true rfl) dX11_undo_4 (fun r_4 hk => ?_)
  refine zr_istore_n (L' := [(0, zrf E 0), (1, .int r_4.2)]) h [1, 0] dX11_undo_7 rfl (by decide) rfl ?_
  refine zr_iload_n h dX11_undo_8 1 rfl rfl ?_
  refine zr_iconst (v := (zI (-1))) h dX11_undo_9 rfl ?_
  refine zr_icmp_ne (tgt := 15) h dX11_undo_10 (by decide) (fun c => ?_) (fun c => ?_)
  · have hk := zOk_t c hk
    refine zr_iconst (v := (zI (-1))) h dX11_undo_13 rfl ?_
    have hk := zOk_some hk
    exact zr_iret h dX11_undo_14 ⟨_, rfl, hk⟩
  · have hk := zOk_f c hk
    refine zr_iload_n h dX11_undo_15 1 rfl rfl ?_
    refine zr_iconst (v := (zI 4)) h dX11_undo_16 rfl ?_
    refine zr_icmp_eq (tgt := 25) h dX11_undo_17 (by decide) (fun c => ?_) (fun c => ?_)
    · have hk := zOk_t c hk
      exact zr_weak h [0] rfl (w_X11_undo_25 h r_4.1 hk)
    · have hk := zOk_f c hk
      refine zr_iload_n h dX11_undo_20 1 rfl rfl ?_
      refine zr_iconst (v := (zI 5)) h dX11_undo_21 rfl ?_
      refine zr_icmp_ne (tgt := 33) h dX11_undo_22 (by decide) (fun c => ?_) (fun c => ?_)
      · have hk := zOk_t c hk
        exact zr_weak h [0] rfl (w_X11_undo_25 h r_4.1 hk)
      · have hk := zOk_f c hk
        refine zr_aload_n h dX11_undo_33 0 rfl rfl ?_
        refine zr_iconst (v := (zI 1)) h dX11_undo_34 rfl ?_
        refine zr_putZ h zfp_X11_95 lC_0 rfl (by decide) dX11_undo_35 ?_
        refine zr_mem (fun M_35 eM => ?_)
        have hk := zOk_bnd eM hk
        exact zr_weak h [0] rfl (w_X11_undo_38 h M_35 hk)
theorem dX11_count_0 : decode cX11_count 0 = .ok (.aload_n 0, 1) := by decide +kernel
theorem dX11_count_1 : decode cX11_count 1 = .ok (.invokevirtual 210, 3) := by decide +kernel
theorem dX11_count_4 : decode cX11_count 4 = .ok (.iload_n 1, 1) := by decide +kernel
theorem dX11_count_5 : decode cX11_count 5 = .ok (.tableswitch 239 0 17 #[87, 95, 103, 111, 119, 127, 135, 144, 153, 162, 170, 182, 194, 202, 210, 218, 226, 231], 87) := by decide +kernel
theorem dX11_count_92 : decode cX11_count 92 = .ok (.aload_n 0, 1) := by decide +kernel
theorem dX11_count_93 : decode cX11_count 93 = .ok (.getfield 19, 3) := by decide +kernel
theorem dX11_count_96 : decode cX11_count 96 = .ok (.invokevirtual 123, 3) := by decide +kernel
theorem dX11_count_99 : decode cX11_count 99 = .ok (.ireturn, 1) := by decide +kernel
theorem dX11_count_100 : decode cX11_count 100 = .ok (.aload_n 0, 1) := by decide +kernel
theorem dX11_count_101 : decode cX11_count 101 = .ok (.getfield 19, 3) := by decide +kernel
theorem dX11_count_104 : decode cX11_count 104 = .ok (.invokevirtual 281, 3) := by decide +kernel
theorem dX11_count_107 : decode cX11_count 107 = .ok (.ireturn, 1) := by decide +kernel
theorem dX11_count_108 : decode cX11_count 108 = .ok (.aload_n 0, 1) := by decide +kernel
theorem dX11_count_109 : decode cX11_count 109 = .ok (.getfield 26, 3) := by decide +kernel
theorem dX11_count_112 : decode cX11_count 112 = .ok (.invokevirtual 284, 3) := by decide +kernel
theorem dX11_count_115 : decode cX11_count 115 = .ok (.ireturn, 1) := by decide +kernel
theorem dX11_count_116 : decode cX11_count 116 = .ok (.aload_n 0, 1) := by decide +kernel
theorem dX11_count_117 : decode cX11_count 117 = .ok (.getfield 26, 3) := by decide +kernel
theorem dX11_count_120 : decode cX11_count 120 = .ok (.invokevirtual 285, 3) := by decide +kernel
theorem dX11_count_123 : decode cX11_count 123 = .ok (.ireturn, 1) := by decide +kernel
theorem dX11_count_124 : decode cX11_count 124 = .ok (.aload_n 0, 1) := by decide +kernel
theorem dX11_count_125 : decode cX11_count 125 = .ok (.getfield 47, 3) := by decide +kernel
theorem dX11_count_128 : decode cX11_count 128 = .ok (.invokevirtual 288, 3) := by decide +kernel
theorem dX11_count_131 : decode cX11_count 131 = .ok (.ireturn, 1) := by decide +kernel
theorem dX11_count_132 : decode cX11_count 132 = .ok (.aload_n 0, 1) := by decide +kernel
theorem dX11_count_133 : decode cX11_count 133 = .ok (.getfield 54, 3) := by decide +kernel
theorem dX11_count_136 : decode cX11_count 136 = .ok (.invokevirtual 291, 3) := by decide +kernel
theorem dX11_count_139 : decode cX11_count 139 = .ok (.ireturn, 1) := by decide +kernel
theorem dX11_count_140 : decode cX11_count 140 = .ok (.aload_n 0, 1) := by decide +kernel
theorem dX11_count_141 : decode cX11_count 141 = .ok (.getfield 40, 3) := by decide +kernel
theorem dX11_count_144 : decode cX11_count 144 = .ok (.iconst 0, 1) := by decide +kernel
theorem dX11_count_145 : decode cX11_count 145 = .ok (.invokevirtual 294, 3) := by decide +kernel
theorem dX11_count_148 : decode cX11_count 148 = .ok (.ireturn, 1) := by decide +kernel
theorem dX11_count_149 : decode cX11_count 149 = .ok (.aload_n 0, 1) := by decide +kernel
theorem dX11_count_150 : decode cX11_count 150 = .ok (.getfield 40, 3) := by decide +kernel
theorem dX11_count_153 : decode cX11_count 153 = .ok (.iconst 1, 1) := by decide +kernel
theorem dX11_count_154 : decode cX11_count 154 = .ok (.invokevirtual 294, 3) := by decide +kernel
theorem dX11_count_157 : decode cX11_count 157 = .ok (.ireturn, 1) := by decide +kernel
theorem dX11_count_158 : decode cX11_count 158 = .ok (.aload_n 0, 1) := by decide +kernel
theorem dX11_count_159 : decode cX11_count 159 = .ok (.getfield 40, 3) := by decide +kernel
theorem dX11_count_162 : decode cX11_count 162 = .ok (.iconst 2, 1) := by decide +kernel
theorem dX11_count_163 : decode cX11_count 163 = .ok (.invokevirtual 294, 3) := by decide +kernel
theorem dX11_count_166 : decode cX11_count 166 = .ok (.ireturn, 1) := by decide +kernel
theorem dX11_count_167 : decode cX11_count 167 = .ok (.aload_n 0, 1) := by decide +kernel
theorem dX11_count_168 : decode cX11_count 168 = .ok (.getfield 33, 3) := by decide +kernel
theorem dX11_count_171 : decode cX11_count 171 = .ok (.invokevirtual 297, 3) := by decide +kernel
theorem dX11_count_174 : decode cX11_count 174 = .ok (.ireturn, 1) := by decide +kernel
theorem dX11_count_175 : decode cX11_count 175 = .ok (.aload_n 0, 1) := by decide +kernel
theorem dX11_count_176 : decode cX11_count 176 = .ok (.getfield 63, 3) := by decide +kernel
theorem dX11_count_179 : decode cX11_count 179 = .ok (.aload_n 0, 1) := by decide +kernel
theorem dX11_count_180 : decode cX11_count 180 = .ok (.getfield 19, 3) := by decide +kernel
theorem dX11_count_183 : decode cX11_count 183 = .ok (.invokevirtual 298, 3) := by decide +kernel
theorem dX11_count_186 : decode cX11_count 186 = .ok (.ireturn, 1) := by decide +kernel
theorem dX11_count_187 : decode cX11_count 187 = .ok (.aload_n 0, 1) := by decide +kernel
theorem dX11_count_188 : decode cX11_count 188 = .ok (.getfield 67, 3) := by decide +kernel
theorem dX11_count_191 : decode cX11_count 191 = .ok (.aload_n 0, 1) := by decide +kernel
theorem dX11_count_192 : decode cX11_count 192 = .ok (.getfield 19, 3) := by decide +kernel
theorem dX11_count_195 : decode cX11_count 195 = .ok (.invokevirtual 298, 3) := by decide +kernel
theorem dX11_count_198 : decode cX11_count 198 = .ok (.ireturn, 1) := by decide +kernel
theorem dX11_count_199 : decode cX11_count 199 = .ok (.aload_n 0, 1) := by decide +kernel
theorem dX11_count_200 : decode cX11_count 200 = .ok (.getfield 73, 3) := by decide +kernel
theorem dX11_count_203 : decode cX11_count 203 = .ok (.invokevirtual 240, 3) := by decide +kernel
theorem dX11_count_206 : decode cX11_count 206 = .ok (.ireturn, 1) := by decide +kernel
theorem dX11_count_207 : decode cX11_count 207 = .ok (.aload_n 0, 1) := by decide +kernel
theorem dX11_count_208 : decode cX11_count 208 = .ok (.getfield 40, 3) := by decide +kernel
theorem dX11_count_211 : decode cX11_count 211 = .ok (.invokevirtual 302, 3) := by decide +kernel
theorem dX11_count_214 : decode cX11_count 214 = .ok (.ireturn, 1) := by decide +kernel
theorem dX11_count_215 : decode cX11_count 215 = .ok (.aload_n 0, 1) := by decide +kernel
theorem dX11_count_216 : decode cX11_count 216 = .ok (.getfield 40, 3) := by decide +kernel
theorem dX11_count_219 : decode cX11_count 219 = .ok (.invokevirtual 305, 3) := by decide +kernel
theorem dX11_count_222 : decode cX11_count 222 = .ok (.ireturn, 1) := by decide +kernel
theorem dX11_count_223 : decode cX11_count 223 = .ok (.aload_n 0, 1) := by decide +kernel
theorem dX11_count_224 : decode cX11_count 224 = .ok (.getfield 40, 3) := by decide +kernel
theorem dX11_count_227 : decode cX11_count 227 = .ok (.invokevirtual 278, 3) := by decide +kernel
theorem dX11_count_230 : decode cX11_count 230 = .ok (.ireturn, 1) := by decide +kernel
theorem dX11_count_231 : decode cX11_count 231 = .ok (.aload_n 0, 1) := by decide +kernel
theorem dX11_count_232 : decode cX11_count 232 = .ok (.getfield 268, 3) := by decide +kernel
theorem dX11_count_235 : decode cX11_count 235 = .ok (.ireturn, 1) := by decide +kernel
theorem dX11_count_236 : decode cX11_count 236 = .ok (.aload_n 0, 1) := by decide +kernel
theorem dX11_count_237 : decode cX11_count 237 = .ok (.getfield 10, 3) := by decide +kernel
theorem dX11_count_240 : decode cX11_count 240 = .ok (.invokevirtual 99, 3) := by decide +kernel
theorem dX11_count_243 : decode cX11_count 243 = .ok (.ireturn, 1) := by decide +kernel
theorem dX11_count_244 : decode cX11_count 244 = .ok (.iconst (-1), 1) := by decide +kernel
theorem dX11_count_245 : decode cX11_count 245 = .ok (.ireturn, 1) := by decide +kernel
noncomputable def f_X11_count (M : ZMem) (x1 : Int32) : Option (ZMem × Int32) := zbind (f_X11_freshenGrid M) (fun M_1 => if x1 = (zI 0) then zbind (f_X0_told M_1) (fun r_96 => some (M_1, r_96)) else (if x1 = (zI 1) then zbind (f_X0_signsHeld M_1) (fun r_104 => some (M_1, r_104)) else (if x1 = (zI 2) then zbind (f_X7_told M_1) (fun r_112 => some (M_1, r_112)) else (if x1 = (zI 3) then zbind (f_X7_allRows M_1) (fun r_120 => some (M_1, r_120)) else (if x1 = (zI 4) then zbind (f_X6_allSigns M_1) (fun r_128 => some (M_1, r_128)) else (if x1 = (zI 5) then zbind (f_X2_allCuts M_1) (fun r_136 => some (M_1, r_136)) else (if x1 = (zI 6) then zbind (f_X1_settingOf M_1 (zI 0)) (fun r_145 => some (M_1, r_145)) else (if x1 = (zI 7) then zbind (f_X1_settingOf M_1 (zI 1)) (fun r_154 => some (M_1, r_154)) else (if x1 = (zI 8) then zbind (f_X1_settingOf M_1 (zI 2)) (fun r_163 => some (M_1, r_163)) else (if x1 = (zI 9) then zbind (f_X4_told M_1) (fun r_171 => some (M_1, r_171)) else (if x1 = (zI 10) then zbind (f_X5_groups 41 M_1) (fun r_183 => some (M_1, r_183)) else (if x1 = (zI 11) then zbind (f_X5_groups 45 M_1) (fun r_195 => some (M_1, r_195)) else (if x1 = (zI 12) then zbind (f_X9_disputedSigns M_1) (fun r_203 => some (M_1, r_203)) else (if x1 = (zI 13) then zbind (f_X1_guessesHeld M_1) (fun r_211 => some (M_1, r_211)) else (if x1 = (zI 14) then zbind (f_X1_cluesHeld M_1) (fun r_219 => some (M_1, r_219)) else (if x1 = (zI 15) then zbind (f_X1_actsHeld M_1) (fun r_227 => some (M_1, r_227)) else (if x1 = (zI 16) then some (M_1, (M_1.1 0 12)) else (if x1 = (zI 17) then zbind (f_X8_used M_1) (fun r_240 => some (M_1, r_240)) else (some (M_1, (zI (-1))))))))))))))))))))))
set_option maxRecDepth 100000 in
set_option maxHeartbeats 4000000 in
theorem c_X11_count (E : ZEv) (M : ZMem) (x1 : Int32) (K : ZMem × Int32 → Prop) (hk : zOk (f_X11_count M x1) K) : zCon lyC E yX11_count cX11_count 2 (some .int) 7 [zrf E 0, .int x1] M (zRm K) := by
  refine zcon_of (L0 := [(0, zrf E 0), (1, .int x1)]) (by decide) rfl (Nat.le_of_ble_eq_true rfl) (fun G h => ?_)
  have h : zRu lyC E G (zRm K) cX11_count RX11 2 (some .int) 7 := h
  unfold f_X11_count at hk
  refine zr_aload_n h dX11_count_0 0 rfl rfl ?_
  refine zr_callVv h lC_0 zcw_X11_210 (by decide) (c_X11_freshenGrid E M _ (zOk_bind hk)) rfl rfl (Nat.le_of_ble_eq_true rfl) dX11_count_1 (fun M_1 hk => ?_)
  refine zr_iload_n h dX11_count_4 1 rfl rfl ?_
  by_cases c0 : x1 = (zI 0)
  · have hk := zOk_t c0 hk
    refine zr_tabIn (tgt := 92) (off := 87) h dX11_count_5 (by rw [c0]; decide) (by rw [c0]; decide) (by rw [c0]; decide) (by decide) ?_
    refine zr_aload_n h dX11_count_92 0 rfl rfl ?_
    refine zr_getR h zfo_X11_19 lC_0 rfl dX11_count_93 ?_
    refine zr_callVp h lC_3 zcw_X11_123 (by decide) (c_X0_told E M_1 _ (zOk_bind hk)) rfl rfl (Nat.le_of_ble_eq_true rfl) dX11_count_96 (fun r_96 hk => ?_)
    have hk := zOk_some hk
    exact zr_iret h dX11_count_99 ⟨_, rfl, hk⟩
  have hk := zOk_f c0 hk
  by_cases c1 : x1 = (zI 1)
  · have hk := zOk_t c1 hk
    refine zr_tabIn (tgt := 100) (off := 95) h dX11_count_5 (by rw [c1]; decide) (by rw [c1]; decide) (by rw [c1]; decide) (by decide) ?_
    refine zr_aload_n h dX11_count_100 0 rfl rfl ?_
    refine zr_getR h zfo_X11_19 lC_0 rfl dX11_count_101 ?_
    refine zr_callVp h lC_3 zcw_X11_281 (by decide) (c_X0_signsHeld E M_1 _ (zOk_bind hk)) rfl rfl (Nat.le_of_ble_eq_true rfl) dX11_count_104 (fun r_104 hk => ?_)
    have hk := zOk_some hk
    exact zr_iret h dX11_count_107 ⟨_, rfl, hk⟩
  have hk := zOk_f c1 hk
  by_cases c2 : x1 = (zI 2)
  · have hk := zOk_t c2 hk
    refine zr_tabIn (tgt := 108) (off := 103) h dX11_count_5 (by rw [c2]; decide) (by rw [c2]; decide) (by rw [c2]; decide) (by decide) ?_
    refine zr_aload_n h dX11_count_108 0 rfl rfl ?_
    refine zr_getR h zfo_X11_26 lC_0 rfl dX11_count_109 ?_
    refine zr_callVp h lC_11 zcw_X11_284 (by decide) (c_X7_told E M_1 _ (zOk_bind hk)) rfl rfl (Nat.le_of_ble_eq_true rfl) dX11_count_112 (fun r_112 hk => ?_)
    have hk := zOk_some hk
    exact zr_iret h dX11_count_115 ⟨_, rfl, hk⟩
  have hk := zOk_f c2 hk
  by_cases c3 : x1 = (zI 3)
  · have hk := zOk_t c3 hk
    refine zr_tabIn (tgt := 116) (off := 111) h dX11_count_5 (by rw [c3]; decide) (by rw [c3]; decide) (by rw [c3]; decide) (by decide) ?_
    refine zr_aload_n h dX11_count_116 0 rfl rfl ?_
    refine zr_getR h zfo_X11_26 lC_0 rfl dX11_count_117 ?_
    refine zr_callVp h lC_11 zcw_X11_285 (by decide) (c_X7_allRows E M_1 _ (zOk_bind hk)) rfl rfl (Nat.le_of_ble_eq_true rfl) dX11_count_120 (fun r_120 hk => ?_)
    have hk := zOk_some hk
    exact zr_iret h dX11_count_123 ⟨_, rfl, hk⟩
  have hk := zOk_f c3 hk
  by_cases c4 : x1 = (zI 4)
  · have hk := zOk_t c4 hk
    refine zr_tabIn (tgt := 124) (off := 119) h dX11_count_5 (by rw [c4]; decide) (by rw [c4]; decide) (by rw [c4]; decide) (by decide) ?_
    refine zr_aload_n h dX11_count_124 0 rfl rfl ?_
    refine zr_getR h zfo_X11_47 lC_0 rfl dX11_count_125 ?_
    refine zr_callVp h lC_30 zcw_X11_288 (by decide) (c_X6_allSigns E M_1 _ (zOk_bind hk)) rfl rfl (Nat.le_of_ble_eq_true rfl) dX11_count_128 (fun r_128 hk => ?_)
    have hk := zOk_some hk
    exact zr_iret h dX11_count_131 ⟨_, rfl, hk⟩
  have hk := zOk_f c4 hk
  by_cases c5 : x1 = (zI 5)
  · have hk := zOk_t c5 hk
    refine zr_tabIn (tgt := 132) (off := 127) h dX11_count_5 (by rw [c5]; decide) (by rw [c5]; decide) (by rw [c5]; decide) (by decide) ?_
    refine zr_aload_n h dX11_count_132 0 rfl rfl ?_
    refine zr_getR h zfo_X11_54 lC_0 rfl dX11_count_133 ?_
    refine zr_callVp h lC_34 zcw_X11_291 (by decide) (c_X2_allCuts E M_1 _ (zOk_bind hk)) rfl rfl (Nat.le_of_ble_eq_true rfl) dX11_count_136 (fun r_136 hk => ?_)
    have hk := zOk_some hk
    exact zr_iret h dX11_count_139 ⟨_, rfl, hk⟩
  have hk := zOk_f c5 hk
  by_cases c6 : x1 = (zI 6)
  · have hk := zOk_t c6 hk
    refine zr_tabIn (tgt := 140) (off := 135) h dX11_count_5 (by rw [c6]; decide) (by rw [c6]; decide) (by rw [c6]; decide) (by decide) ?_
    refine zr_aload_n h dX11_count_140 0 rfl rfl ?_
    refine zr_getR h zfo_X11_40 lC_0 rfl dX11_count_141 ?_
    refine zr_iconst (v := (zI 0)) h dX11_count_144 rfl ?_
    refine zr_callVp h lC_20 zcw_X11_294 (by decide) (c_X1_settingOf E M_1 (zI 0) _ (zOk_bind hk)) rfl rfl (Nat.le_of_ble_eq_true rfl) dX11_count_145 (fun r_145 hk => ?_)
    have hk := zOk_some hk
    exact zr_iret h dX11_count_148 ⟨_, rfl, hk⟩
  have hk := zOk_f c6 hk
  by_cases c7 : x1 = (zI 7)
  · have hk := zOk_t c7 hk
    refine zr_tabIn (tgt := 149) (off := 144) h dX11_count_5 (by rw [c7]; decide) (by rw [c7]; decide) (by rw [c7]; decide) (by decide) ?_
    refine zr_aload_n h dX11_count_149 0 rfl rfl ?_
    refine zr_getR h zfo_X11_40 lC_0 rfl dX11_count_150 ?_
    refine zr_iconst (v := (zI 1)) h dX11_count_153 rfl ?_
    refine zr_callVp h lC_20 zcw_X11_294 (by decide) (c_X1_settingOf E M_1 (zI 1) _ (zOk_bind hk)) rfl rfl (Nat.le_of_ble_eq_true rfl) dX11_count_154 (fun r_154 hk => ?_)
    have hk := zOk_some hk
    exact zr_iret h dX11_count_157 ⟨_, rfl, hk⟩
  have hk := zOk_f c7 hk
  by_cases c8 : x1 = (zI 8)
  · have hk := zOk_t c8 hk
    refine zr_tabIn (tgt := 158) (off := 153) h dX11_count_5 (by rw [c8]; decide) (by rw [c8]; decide) (by rw [c8]; decide) (by decide) ?_
    refine zr_aload_n h dX11_count_158 0 rfl rfl ?_
    refine zr_getR h zfo_X11_40 lC_0 rfl dX11_count_159 ?_
    refine zr_iconst (v := (zI 2)) h dX11_count_162 rfl ?_
    refine zr_callVp h lC_20 zcw_X11_294 (by decide) (c_X1_settingOf E M_1 (zI 2) _ (zOk_bind hk)) rfl rfl (Nat.le_of_ble_eq_true rfl) dX11_count_163 (fun r_163 hk => ?_)
    have hk := zOk_some hk
    exact zr_iret h dX11_count_166 ⟨_, rfl, hk⟩
  have hk := zOk_f c8 hk
  by_cases c9 : x1 = (zI 9)
  · have hk := zOk_t c9 hk
    refine zr_tabIn (tgt := 167) (off := 162) h dX11_count_5 (by rw [c9]; decide) (by rw [c9]; decide) (by rw [c9]; decide) (by decide) ?_
    refine zr_aload_n h dX11_count_167 0 rfl rfl ?_
    refine zr_getR h zfo_X11_33 lC_0 rfl dX11_count_168 ?_
    refine zr_callVp h lC_17 zcw_X11_297 (by decide) (c_X4_told E M_1 _ (zOk_bind hk)) rfl rfl (Nat.le_of_ble_eq_true rfl) dX11_count_171 (fun r_171 hk => ?_)
    have hk := zOk_some hk
    exact zr_iret h dX11_count_174 ⟨_, rfl, hk⟩
  have hk := zOk_f c9 hk
  by_cases c10 : x1 = (zI 10)
  · have hk := zOk_t c10 hk
    refine zr_tabIn (tgt := 175) (off := 170) h dX11_count_5 (by rw [c10]; decide) (by rw [c10]; decide) (by rw [c10]; decide) (by decide) ?_
    refine zr_aload_n h dX11_count_175 0 rfl rfl ?_
    refine zr_getR h zfo_X11_63 lC_0 rfl dX11_count_176 ?_
    refine zr_aload_n h dX11_count_179 0 rfl rfl ?_
    refine zr_getR h zfo_X11_19 lC_0 rfl dX11_count_180 ?_
    refine zr_callVp h lC_41 zcw_X11_298 (by decide) (c_X5_groups E 41 lC_41 lC_42 lC_43 lC_44 M_1 _ (zOk_bind hk)) rfl rfl (Nat.le_of_ble_eq_true rfl) dX11_count_183 (fun r_183 hk => ?_)
    have hk := zOk_some hk
    exact zr_iret h dX11_count_186 ⟨_, rfl, hk⟩
  have hk := zOk_f c10 hk
  by_cases c11 : x1 = (zI 11)
  · have hk := zOk_t c11 hk
    refine zr_tabIn (tgt := 187) (off := 182) h dX11_count_5 (by rw [c11]; decide) (by rw [c11]; decide) (by rw [c11]; decide) (by decide) ?_
    refine zr_aload_n h dX11_count_187 0 rfl rfl ?_
    refine zr_getR h zfo_X11_67 lC_0 rfl dX11_count_188 ?_
    refine zr_aload_n h dX11_count_191 0 rfl rfl ?_
    refine zr_getR h zfo_X11_19 lC_0 rfl dX11_count_192 ?_
    refine zr_callVp h lC_45 zcw_X11_298 (by decide) (c_X5_groups E 45 lC_45 lC_46 lC_47 lC_48 M_1 _ (zOk_bind hk)) rfl rfl (Nat.le_of_ble_eq_true rfl) dX11_count_195 (fun r_195 hk => ?_)
    have hk := zOk_some hk
    exact zr_iret h dX11_count_198 ⟨_, rfl, hk⟩
  have hk := zOk_f c11 hk
  by_cases c12 : x1 = (zI 12)
  · have hk := zOk_t c12 hk
    refine zr_tabIn (tgt := 199) (off := 194) h dX11_count_5 (by rw [c12]; decide) (by rw [c12]; decide) (by rw [c12]; decide) (by decide) ?_
    refine zr_aload_n h dX11_count_199 0 rfl rfl ?_
    refine zr_getR h zfo_X11_73 lC_0 rfl dX11_count_200 ?_
    refine zr_callVp h lC_49 zcw_X11_240 (by decide) (c_X9_disputedSigns E M_1 _ (zOk_bind hk)) rfl rfl (Nat.le_of_ble_eq_true rfl) dX11_count_203 (fun r_203 hk => ?_)
    have hk := zOk_some hk
    exact zr_iret h dX11_count_206 ⟨_, rfl, hk⟩
  have hk := zOk_f c12 hk
  by_cases c13 : x1 = (zI 13)
  · have hk := zOk_t c13 hk
    refine zr_tabIn (tgt := 207) (off := 202) h dX11_count_5 (by rw [c13]; decide) (by rw [c13]; decide) (by rw [c13]; decide) (by decide) ?_
    refine zr_aload_n h dX11_count_207 0 rfl rfl ?_
    refine zr_getR h zfo_X11_40 lC_0 rfl dX11_count_208 ?_
    refine zr_callVp h lC_20 zcw_X11_302 (by decide) (c_X1_guessesHeld E M_1 _ (zOk_bind hk)) rfl rfl (Nat.le_of_ble_eq_true rfl) dX11_count_211 (fun r_211 hk => ?_)
    have hk := zOk_some hk
    exact zr_iret h dX11_count_214 ⟨_, rfl, hk⟩
  have hk := zOk_f c13 hk
  by_cases c14 : x1 = (zI 14)
  · have hk := zOk_t c14 hk
    refine zr_tabIn (tgt := 215) (off := 210) h dX11_count_5 (by rw [c14]; decide) (by rw [c14]; decide) (by rw [c14]; decide) (by decide) ?_
    refine zr_aload_n h dX11_count_215 0 rfl rfl ?_
    refine zr_getR h zfo_X11_40 lC_0 rfl dX11_count_216 ?_
    refine zr_callVp h lC_20 zcw_X11_305 (by decide) (c_X1_cluesHeld E M_1 _ (zOk_bind hk)) rfl rfl (Nat.le_of_ble_eq_true rfl) dX11_count_219 (fun r_219 hk => ?_)
    have hk := zOk_some hk
    exact zr_iret h dX11_count_222 ⟨_, rfl, hk⟩
  have hk := zOk_f c14 hk
  by_cases c15 : x1 = (zI 15)
  · have hk := zOk_t c15 hk
    refine zr_tabIn (tgt := 223) (off := 218) h dX11_count_5 (by rw [c15]; decide) (by rw [c15]; decide) (by rw [c15]; decide) (by decide) ?_
    refine zr_aload_n h dX11_count_223 0 rfl rfl ?_
    refine zr_getR h zfo_X11_40 lC_0 rfl dX11_count_224 ?_
    refine zr_callVp h lC_20 zcw_X11_278 (by decide) (c_X1_actsHeld E M_1 _ (zOk_bind hk)) rfl rfl (Nat.le_of_ble_eq_true rfl) dX11_count_227 (fun r_227 hk => ?_)
    have hk := zOk_some hk
    exact zr_iret h dX11_count_230 ⟨_, rfl, hk⟩
  have hk := zOk_f c15 hk
  by_cases c16 : x1 = (zI 16)
  · have hk := zOk_t c16 hk
    refine zr_tabIn (tgt := 231) (off := 226) h dX11_count_5 (by rw [c16]; decide) (by rw [c16]; decide) (by rw [c16]; decide) (by decide) ?_
    refine zr_aload_n h dX11_count_231 0 rfl rfl ?_
    refine zr_getI h zfo_X11_268 lC_0 rfl dX11_count_232 ?_
    have hk := zOk_some hk
    exact zr_iret h dX11_count_235 ⟨_, rfl, hk⟩
  have hk := zOk_f c16 hk
  by_cases c17 : x1 = (zI 17)
  · have hk := zOk_t c17 hk
    refine zr_tabIn (tgt := 236) (off := 231) h dX11_count_5 (by rw [c17]; decide) (by rw [c17]; decide) (by rw [c17]; decide) (by decide) ?_
    refine zr_aload_n h dX11_count_236 0 rfl rfl ?_
    refine zr_getR h zfo_X11_10 lC_0 rfl dX11_count_237 ?_
    refine zr_callVp h lC_1 zcw_X11_99 (by decide) (c_X8_used E M_1 _ (zOk_bind hk)) rfl rfl (Nat.le_of_ble_eq_true rfl) dX11_count_240 (fun r_240 hk => ?_)
    have hk := zOk_some hk
    exact zr_iret h dX11_count_243 ⟨_, rfl, hk⟩
  have hk := zOk_f c17 hk
  have hz : (x1).toInt ≠ 0 ∧ (x1).toInt ≠ 1 ∧ (x1).toInt ≠ 2 ∧ (x1).toInt ≠ 3 ∧ (x1).toInt ≠ 4 ∧ (x1).toInt ≠ 5 ∧ (x1).toInt ≠ 6 ∧ (x1).toInt ≠ 7 ∧ (x1).toInt ≠ 8 ∧ (x1).toInt ≠ 9 ∧ (x1).toInt ≠ 10 ∧ (x1).toInt ≠ 11 ∧ (x1).toInt ≠ 12 ∧ (x1).toInt ≠ 13 ∧ (x1).toInt ≠ 14 ∧ (x1).toInt ≠ 15 ∧ (x1).toInt ≠ 16 ∧ (x1).toInt ≠ 17 := ⟨zInt_ne c0, zInt_ne c1, zInt_ne c2, zInt_ne c3, zInt_ne c4, zInt_ne c5, zInt_ne c6, zInt_ne c7, zInt_ne c8, zInt_ne c9, zInt_ne c10, zInt_ne c11, zInt_ne c12, zInt_ne c13, zInt_ne c14, zInt_ne c15, zInt_ne c16, zInt_ne c17⟩
  refine zr_tabOut (tgt := 244) h dX11_count_5 (by omega) (by decide) ?_
  refine zr_iconst (v := (zI (-1))) h dX11_count_244 rfl ?_
  have hk := zOk_some hk
  exact zr_iret h dX11_count_245 ⟨_, rfl, hk⟩
